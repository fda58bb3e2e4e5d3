theorem okC_c {a a' m m' : Dv} {C i : Nat} (e1 : a' 1 i = a 1 i) (e2 : a' 2 i = a 2 i) (e3 : a' 3 i = a 3 i) (e4 : a' 4 i = a 4 i) (f1 : m' 4 i = m 4 i) (f2 : m' 5 i = m 5 i) (f3 : m' 6 i = m 6 i) (f4 : m' 7 i = m 7 i) (h : okC a m C i) : okC a' m' C i := by
  unfold okC at h ⊢
  rw [e1, e2, e3, e4, f1, f2, f3, f4]
  exact h
theorem okT_c {a a' m m' : Dv} {C i : Nat} (e1 : a' 5 i = a 5 i) (e2 : a' 6 i = a 6 i) (e3 : a' 7 i = a 7 i) (f1 : m' 8 i = m 8 i) (f2 : m' 9 i = m 9 i) (f3 : m' 10 i = m 10 i) (h : okT a m C i) : okT a' m' C i := by
  unfold okT at h ⊢
  rw [e1, e2, e3, f1, f2, f3]
  exact h
theorem okM_c {a a' m m' : Dv} {C K i : Nat} (e1 : a' 9 i = a 9 i) (e2 : a' 10 i = a 10 i) (e3 : a' 11 i = a 11 i) (f1 : m' 11 i = m 11 i) (f2 : m' 12 i = m 12 i) (f3 : m' 13 i = m 13 i) (h : okM a m C K i) : okM a' m' C K i := by
  unfold okM at h ⊢
  rw [e1, e2, e3, f1, f2, f3]
  exact h
theorem okR_c {a a' m m' : Dv} {K i : Nat} (e1 : a' 13 i = a 13 i) (e2 : a' 14 i = a 14 i) (e3 : a' 15 i = a 15 i) (f1 : m' 19 i = m 19 i) (f2 : m' 20 i = m 20 i) (f3 : m' 21 i = m 21 i) (h : okR a m K i) : okR a' m' K i := by
  unfold okR at h ⊢
  rw [e1, e2, e3, f1, f2, f3]
  exact h
theorem add_x {h : Hp} {q n : Nat} (hn : n ≤ 8) (hq : h.1 q 3 = nI n) (r0 : h.2 q 0 = some (q + 1)) (r1 : h.2 q 1 = some (q + 2)) (r2 : h.2 q 2 = some (q + 3)) (s1 : shC[q + 1]? = some (1, 8)) (s2 : shC[q + 2]? = some (1, 8)) (s3 : shC[q + 3]? = some (1, 8)) (x y z : Int32) :
    F_X3_add q x y z h = if n < 8 then some (nI n, pI (pI (pI (pI h (q + 1) n x) (q + 2) n y) (q + 3) n z) q 3 (nI (n + 1))) else some (-4, h) := by
  unfold F_X3_add
  by_cases c : n < 8
  · have g1 : (pI h (q + 1) n x).1 q 3 = nI n := by rw [pI_1, if_neg (by omega)]; exact hq
    have g2 : (pI (pI h (q + 1) n x) (q + 2) n y).1 q 3 = nI n := by rw [pI_1, if_neg (by omega)]; exact g1
    have g3 : (pI (pI (pI h (q + 1) n x) (q + 2) n y) (q + 3) n z).1 q 3 = nI n := by rw [pI_1, if_neg (by omega)]; exact g2
    have g4 : (pI (pI (pI (pI h (q + 1) n x) (q + 2) n y) (q + 3) n z) q 3 (nI (n + 1))).1 q 3 = nI (n + 1) := by rw [pI_1, if_pos ⟨rfl, rfl⟩]
    rw [if_pos c]
    simp only [hq, if_pos (show nI n < (8 : Int32) from nI_lt (b := 8) c (by decide)), r0, ob_s, aIn_i s1 c (by decide), ck_t, nm_x, cl_i (show n < 2 ^ 31 by omega), pI_2, r1, g1, aIn_i s2 c (by decide), r2, g2, aIn_i s3 c (by decide), g3, nI_1, g4]
    rw [show nI (n + 1) - 1 = nI n from nI_pred n]
  · rw [if_neg c, hq, if_neg]
    rw [show n = 8 by omega]
    decide
set_option maxHeartbeats 1000000 in
theorem st_reading : ∀ a b c : Int32, SP Inv (fun h => F_X6_reading 0 a b c h) (fun k => F_X7_reading 0 a b c k) := by
  rintro a b c h k ⟨d, w, C, K, T, M, R, I⟩
  have hS := SD_of I.1
  have hR := I.2.2.1
  have hD := hR.dr I.1
  have hM := I.2.2.2.1
  unfold RC at hR
  unfold SD at hS
  unfold DR at hD
  unfold RM at hM
  obtain ⟨e1, e2, e3⟩ := I.R
  dsimp only
  unfold F_X6_reading F_X7_reading
  rcases cheese_q I a with ⟨f1, f2⟩ | ⟨i, hi, rfl, f1, f2⟩
  · rw [f1, f2]
    exact ⟨-1, h, k, rfl, rfl, d, w, C, K, T, M, R, I⟩
  rw [f1, f2]
  simp only [bnd_s, if_neg (show ¬ (1 : Int32) = 0 by decide)]
  have key : (c = -9 ∨ ∃ x, x < 8 ∧ c = nI x) → ∃ r h' k', F_X6_reading_J23 0 (nI i) b c h = some (r, h') ∧ F_X7_reading_J23 0 (nI i) b c k = some (r, k') ∧ Inv h' k' := by
    intro hc
    unfold F_X6_reading_J23 F_X7_reading_J23
    rcases mWithin0 (k := k) 7 (by decide) b with ⟨q, e⟩ | ⟨l, hl, rfl, e⟩
    · have e9 : F_X7_within b 0 7 k = some (0, k) := e
      rw [e9]
      refine ⟨-2, h, k, ?_, rfl, d, w, C, K, T, M, R, I⟩
      rcases q with q | ⟨q, q2⟩
      · rw [if_pos q]
      · rw [if_neg q, if_neg (show ¬ b < (8 : Int32) from Int32.not_lt.mpr q2)]
    · have e9 : F_X7_within (nI l) 0 7 k = some (1, k) := e
      rw [e9, if_neg (nI_pos (by omega)), if_pos (show nI l < (8 : Int32) from nI_lt (b := 8) hl (by decide))]
      simp only [bnd_s, if_neg (show ¬ (1 : Int32) = 0 by decide), hR, hD, gO_s, hS, ck_t, e2]
      rw [add_x e3 e1 (by simp only [hD]) (by simp only [hD]) (by simp only [hD]) (by simp only [hS]) (by simp only [hS]) (by simp only [hS])]
      by_cases c8 : R < 8
      · rw [if_pos c8, if_neg (show ¬ nI R = (8 : Int32) from fun z => absurd ((nI_eq (b := 8) (by omega) (by decide)).mp z) (by omega))]
        have b19 := aIn_i (sh := shM) (q := 19) (n := 8) (by decide +kernel) c8 (by decide)
        have b20 := aIn_i (sh := shM) (q := 20) (n := 8) (by decide +kernel) c8 (by decide)
        have b21 := aIn_i (sh := shM) (q := 21) (n := 8) (by decide +kernel) c8 (by decide)
        have g1 : (pI k 19 R (nI i)).1 0 29 = nI R := e2
        have g2 : (pI (pI k 19 R (nI i)) 20 R (nI l)).1 0 29 = nI R := e2
        have g3 : (pI (pI (pI k 19 R (nI i)) 20 R (nI l)) 21 R c).1 0 29 = nI R := e2
        have g4 : (pI (pI (pI (pI k 19 R (nI i)) 20 R (nI l)) 21 R c) 0 29 (nI (R + 1))).1 0 29 = nI (R + 1) := rfl
        simp only [bnd_s, hM, ob_s, b19, b20, b21, ck_t, nm_x, cl_i (show R < 2 ^ 31 by omega), pI_2, g1, g2, g3, nI_1, g4]
        rw [show nI (R + 1) - 1 = nI R from nI_pred R]
        refine ⟨_, _, _, rfl, rfl, d, w, C, K, T, M, R + 1, ?_⟩
        have hd : d + 21 ≤ 67 ∧ 22 < d := by rcases I.1 with rfl | rfl <;> decide
        obtain ⟨a1, a2, a3, a4, a5, a6, d1, d2, d3, d4, d5, d6, d7, d8⟩ := I
        refine ⟨a1, a2, RC_c rfl a3, RM_c rfl a4, ?_, ?_, ?_⟩
        · simp only [pI_1]
          rw [if_neg (by omega), if_neg (by omega), if_neg (by omega), if_neg (by omega), if_neg (by omega), if_neg (by omega), if_neg (by omega), if_neg (by omega), if_neg (by omega), if_neg (by omega), if_neg (by omega), if_neg (by omega), if_neg (by omega), if_neg (by omega), if_neg (by omega), if_neg (by omega)]
          exact a5
        · rw [hs_off (by omega), hs_off (by omega), hs_off (by omega), hs_off (by omega), ks_off (by decide), ks_off (by decide), ks_off (by decide), ks_off (by decide)]
          exact a6
        · rw [dv_on (q := 12) (by decide), dv_on (q := 15) (by decide), dv_on (q := 14) (by decide), dv_on (q := 13) (by decide), kd_on (by omega), kd_on (by omega), kd_on (by omega), kd_on (by omega)]
          generalize hA : u2 (u2 (u2 (u2 (dv h d) 13 R (nI i)) 14 R (nI l)) 15 R c) 12 3 (nI (R + 1)) = A
          generalize hB : u2 (u2 (u2 (u2 (kd k) 19 R (nI i)) 20 R (nI l)) 21 R c) 0 29 (nI (R + 1)) = B
          have fa : ∀ q, q ≠ 12 → q ≠ 13 → q ≠ 14 → q ≠ 15 → A q = dv h d q := fun q q1 q2 q3 q4 => by rw [← hA, u2_q q1, u2_q q4, u2_q q3, u2_q q2]
          have fb : ∀ q, q ≠ 0 → q ≠ 19 → q ≠ 20 → q ≠ 21 → B q = kd k q := fun q q1 q2 q3 q4 => by rw [← hB, u2_q q1, u2_q q4, u2_q q3, u2_q q2]
          refine ⟨?_, ⟨d2.1, d2.2.1, d2.2.2.1, d2.2.2.2.1, by omega⟩, ?_, ?_, ?_, ?_, ?_, ?_⟩
          · rw [fa 0 (by decide) (by decide) (by decide) (by decide), fa 8 (by decide) (by decide) (by decide) (by decide)]
            exact ⟨d1.1, d1.2.1, d1.2.2.1, d1.2.2.2.1, by rw [← hA]; exact u2_s⟩
          · rw [← hB]
            exact ⟨d3.1, d3.2.1, d3.2.2.1, d3.2.2.2.1, u2_s, d3.2.2.2.2.2⟩
          · intro j hj
            have h1 : ∀ q, q < 12 → A q = dv h d q := fun q hq => fa q (by omega) (by omega) (by omega) (by omega)
            have h2 : ∀ q, 1 ≤ q → q < 19 → B q = kd k q := fun q hq hq2 => fb q (by omega) (by omega) (by omega) (by omega)
            exact okC_c (by rw [h1 1 (by decide)]) (by rw [h1 2 (by decide)]) (by rw [h1 3 (by decide)]) (by rw [h1 4 (by decide)]) (by rw [h2 4 (by decide) (by decide)]) (by rw [h2 5 (by decide) (by decide)]) (by rw [h2 6 (by decide) (by decide)]) (by rw [h2 7 (by decide) (by decide)]) (d4 j hj)
          · intro j hj
            have h1 : ∀ q, q < 12 → A q = dv h d q := fun q hq => fa q (by omega) (by omega) (by omega) (by omega)
            have h2 : ∀ q, 1 ≤ q → q < 19 → B q = kd k q := fun q hq hq2 => fb q (by omega) (by omega) (by omega) (by omega)
            exact okT_c (by rw [h1 5 (by decide)]) (by rw [h1 6 (by decide)]) (by rw [h1 7 (by decide)]) (by rw [h2 8 (by decide) (by decide)]) (by rw [h2 9 (by decide) (by decide)]) (by rw [h2 10 (by decide) (by decide)]) (d5 j hj)
          · intro j hj
            have h1 : ∀ q, q < 12 → A q = dv h d q := fun q hq => fa q (by omega) (by omega) (by omega) (by omega)
            have h2 : ∀ q, 1 ≤ q → q < 19 → B q = kd k q := fun q hq hq2 => fb q (by omega) (by omega) (by omega) (by omega)
            exact okM_c (by rw [h1 9 (by decide)]) (by rw [h1 10 (by decide)]) (by rw [h1 11 (by decide)]) (by rw [h2 11 (by decide) (by decide)]) (by rw [h2 12 (by decide) (by decide)]) (by rw [h2 13 (by decide) (by decide)]) (d6 j hj)
          · intro j hj
            by_cases e : j = R
            · subst e
              refine ⟨⟨i, hi, ?_⟩, ⟨l, hl, ?_⟩, ?_, ?_, ?_, ?_⟩
              · rw [← hA]; simp [u2]
              · rw [← hA]; simp [u2]
              · have h15 : A 15 j = c := by rw [← hA]; simp [u2]
                rw [h15]
                exact hc
              · rw [← hA, ← hB]; simp [u2]
              · rw [← hA, ← hB]; simp [u2]
              · rw [← hA, ← hB]; simp [u2]
            · refine okR_c ?_ ?_ ?_ ?_ ?_ ?_ (d7 j (by omega))
              · rw [← hA]; simp [u2, e]
              · rw [← hA]; simp [u2, e]
              · rw [← hA]; simp [u2, e]
              · rw [← hB]; simp [u2, e]
              · rw [← hB]; simp [u2, e]
              · rw [← hB]; simp [u2, e]
          · intro j hj t ht
            rw [fa (17 + j) (by omega) (by omega) (by omega) (by omega), car_c (fa 9 (by decide) (by decide) (by decide) (by decide)) (fa 10 (by decide) (by decide) (by decide) (by decide)) (fa 11 (by decide) (by decide) (by decide) (by decide))]
            exact d8 j hj t ht
      · have h8 : R = 8 := by omega
        subst h8
        rw [if_neg (by decide), if_pos (show nI 8 = (8 : Int32) from rfl)]
        exact ⟨_, _, _, rfl, rfl, d, w, C, K, T, M, 8, I⟩
  by_cases c9 : c = -9
  · subst c9
    have e5 : F_X6_isWord (-9) h = some (0, h) := rfl
    rw [e5]
    simp only [bnd_s, if_true]
    exact key (Or.inl rfl)
  · rw [if_neg c9]
    rcases word_q c h k with ⟨g1, g2⟩ | ⟨x, hx, rfl, g1, g2⟩
    · rw [g1, g2]
      simp only [bnd_s, if_true, if_neg c9]
      exact ⟨-1, h, k, rfl, rfl, d, w, C, K, T, M, R, I⟩
    · rw [g1, g2]
      simp only [bnd_s, if_neg (show ¬ (1 : Int32) = 0 by decide)]
      exact key (Or.inr ⟨x, hx, rfl⟩)
theorem st_wall : ∀ a b : Int32, SP Inv (fun h => F_X6_wall 0 a b h) (fun k => F_X7_wall 0 a b k) := by
  rintro a b h k ⟨d, w, C, K, T, M, R, I⟩
  have hS := SD_of I.1
  have hR := I.2.2.1
  have hD := hR.dr I.1
  have hM := I.2.2.2.1
  unfold RC at hR
  unfold SD at hS
  unfold DR at hD
  unfold RM at hM
  dsimp only
  unfold F_X6_wall F_X7_wall
  rcases cheese_q I a with ⟨f1, f2⟩ | ⟨i, hi, rfl, f1, f2⟩
  · rw [f1, f2]
    exact ⟨-1, h, k, rfl, rfl, d, w, C, K, T, M, R, I⟩
  rw [f1, f2]
  simp only [bnd_s, if_neg (show ¬ (1 : Int32) = 0 by decide)]
  have key : (b = -9 ∨ ∃ x, x < 8 ∧ b = nI x) → ∃ r h' k', F_X6_wall_J26 0 (nI i) b h = some (r, h') ∧ F_X7_wall_J26 0 (nI i) b k = some (r, k') ∧ Inv h' k' := by
    intro hb
    have h4 := I.K.2.2
    unfold F_X6_wall_J26 F_X7_wall_J26
    obtain ⟨-, -, -, -, -, -, -, q4⟩ := I.cheese hi
    have a4 := aIn_i hS.2.2.2.2.1 (show i < 4 by omega) (by decide)
    have b7 := aIn_i sM.2.2.2.2.2.2.1 (show i < 4 by omega) (by decide)
    simp only [hR, hD, hM, gO_s, hS, ck_t, ob_s, a4, b7, cl_i (show i < 2 ^ 31 by omega), q4, nm_x]
    refine ⟨_, _, _, rfl, rfl, d, w, C, K, T, M, R, ?_⟩
    have hd : d + 21 ≤ 67 ∧ 22 < d := by rcases I.1 with rfl | rfl <;> decide
    obtain ⟨a1, a2, a3, a4, a5, a6, d1, d2, d3, d4, d5, d6, d7, d8⟩ := I
    refine ⟨a1, a2, RC_c rfl a3, RM_c rfl a4, ?_, ?_, ?_⟩
    · simp only [pI_1]
      rw [if_neg (by omega), if_neg (by omega), if_neg (by omega), if_neg (by omega)]
      exact a5
    · rw [hs_off (by omega), ks_off (by decide)]
      exact a6
    · rw [dv_on (q := 4) (by decide), kd_on (by omega)]
      generalize hA : u2 (dv h d) 4 i b = A
      generalize hB : u2 (kd k) 7 i b = B
      have fa : ∀ q, q ≠ 4 → A q = dv h d q := fun q q1 => by rw [← hA, u2_q q1]
      have fb : ∀ q, q ≠ 7 → B q = kd k q := fun q q1 => by rw [← hB, u2_q q1]
      refine ⟨?_, d2, ?_, ?_, ?_, ?_, ?_, ?_⟩
      · rw [fa 0 (by decide), fa 8 (by decide), fa 12 (by decide)]
        exact d1
      · rw [fb 0 (by decide)]
        exact d3
      · intro j hj
        by_cases e : j = i
        · subst e
          obtain ⟨c1, c2, c3, -, c5, c6, c7, -⟩ := d4 j hj
          unfold okC
          rw [fa 1 (by decide), fa 2 (by decide), fa 3 (by decide), fb 4 (by decide), fb 5 (by decide), fb 6 (by decide)]
          have h1 : A 4 j = b := by rw [← hA]; exact u2_s
          have h2 : B 7 j = b := by rw [← hB]; exact u2_s
          rw [h1, h2]
          exact ⟨c1, c2, c3, hb, c5, c6, c7, rfl⟩
        · exact okC_c (by rw [fa 1 (by decide)]) (by rw [fa 2 (by decide)]) (by rw [fa 3 (by decide)]) (by rw [← hA]; exact u2_j e) (by rw [fb 4 (by decide)]) (by rw [fb 5 (by decide)]) (by rw [fb 6 (by decide)]) (by rw [← hB]; exact u2_j e) (d4 j hj)
      · intro j hj
        exact okT_c (by rw [fa 5 (by decide)]) (by rw [fa 6 (by decide)]) (by rw [fa 7 (by decide)]) (by rw [fb 8 (by decide)]) (by rw [fb 9 (by decide)]) (by rw [fb 10 (by decide)]) (d5 j hj)
      · intro j hj
        exact okM_c (by rw [fa 9 (by decide)]) (by rw [fa 10 (by decide)]) (by rw [fa 11 (by decide)]) (by rw [fb 11 (by decide)]) (by rw [fb 12 (by decide)]) (by rw [fb 13 (by decide)]) (d6 j hj)
      · intro j hj
        exact okR_c (by rw [fa 13 (by decide)]) (by rw [fa 14 (by decide)]) (by rw [fa 15 (by decide)]) (by rw [fb 19 (by decide)]) (by rw [fb 20 (by decide)]) (by rw [fb 21 (by decide)]) (d7 j hj)
      · intro j hj t ht
        rw [fa (17 + j) (by omega), car_c (fa 9 (by decide)) (fa 10 (by decide)) (fa 11 (by decide))]
        exact d8 j hj t ht
  by_cases c9 : b = -9
  · subst c9
    have e5 : F_X6_isDay (-9) h = some (0, h) := rfl
    rw [e5]
    simp only [bnd_s, if_true]
    exact key (Or.inl rfl)
  · rw [if_neg c9]
    rcases day_q b h k with ⟨g1, g2⟩ | ⟨x, hx, rfl, g1, g2⟩
    · rw [g1, g2]
      simp only [bnd_s, if_true, if_neg c9]
      exact ⟨-2, h, k, rfl, rfl, d, w, C, K, T, M, R, I⟩
    · rw [g1, g2]
      simp only [bnd_s, if_neg (show ¬ (1 : Int32) = 0 by decide)]
      exact key (Or.inr ⟨x, hx, rfl⟩)
theorem st_undo : ∀ a : Int32, SP Inv (fun h => F_X6_undo 0 a h) (fun k => F_X7_undo 0 a k) := by
  rintro a h k ⟨d, w, C, K, T, M, R, I⟩
  have hS0 := SD_of I.1
  have hD0 := I.2.2.1.dr I.1
  have hS := SD_of I.1
  have hR := I.2.2.1
  have hD := hR.dr I.1
  have hM := I.2.2.2.1
  unfold RC at hR
  unfold SD at hS
  unfold DR at hD
  unfold RM at hM
  obtain ⟨e1, e2, e3⟩ := I.M
  obtain ⟨k1, -, k3⟩ := I.K
  have hd : d + 21 ≤ 67 ∧ 22 < d := by rcases I.1 with rfl | rfl <;> decide
  dsimp only
  unfold F_X6_undo F_X7_undo
  simp only [hR, hD, gO_s, hS, ck_t, e2]
  obtain ⟨a1, a2, a3, a4, a5, a6, d1, d2, d3, d4, d5, d6, d7, d8⟩ := id I
  rcases takeBack_x e3 e1 a with ⟨c, f⟩ | ⟨i, hi, rfl, f⟩
  · rw [f, (within_n e3).1 c]
    simp only [bnd_s, if_true, hR, gO_s, hS, ck_t, carry_x hD0 hS0 e1 e3 k1 k3]
    exact ⟨_, _, _, rfl, rfl, d, w, C, K, T, M, R, In0.ofCarry a1 a2 a3 a4 a5 a6 d1 d2 d3 d4 d5 d6 d7⟩
  · rw [f, (within_n e3).2 i hi rfl]
    have g1 : (pI h (d + 8) 3 (nI (M - i))).1 (d + 8) 3 = nI (M - i) := by rw [pI_1, if_pos ⟨rfl, rfl⟩]
    have g2 : (pI h (d + 8) 3 (nI (M - i))).1 d 1 = nI K := by rw [pI_1, if_neg (by omega)]; exact k1
    have hD1 : DR (pI h (d + 8) 3 (nI (M - i))) d := hD0
    simp only [bnd_s, if_neg (show ¬ (1 : Int32) = 0 by decide), nm_x, pI_2, hR, gO_s, hS, ck_t, e2, pk_sub hi, carry_x hD1 hS0 g1 (show M - i ≤ 8 by omega) g2 k3]
    refine ⟨_, _, _, rfl, rfl, d, w, C, K, T, M - i, R, ?_⟩
    have ea : dv (pI h (d + 8) 3 (nI (M - i))) d = u2 (dv h d) 8 3 (nI (M - i)) := dv_on (by decide)
    have eb : kd (pI k 0 15 (nI (M - i))) = u2 (kd k) 0 15 (nI (M - i)) := kd_on (by omega)
    have fa : ∀ q, q ≠ 8 → u2 (dv h d) 8 3 (nI (M - i)) q = dv h d q := fun q q1 => u2_q q1
    have fb : ∀ q, q ≠ 0 → u2 (kd k) 0 15 (nI (M - i)) q = kd k q := fun q q1 => u2_q q1
    refine In0.ofCarry a1 a2 (RC_c rfl a3) (RM_c rfl a4) ?_ ?_ ?_ ⟨d2.1, d2.2.1, d2.2.2.1, by omega, d2.2.2.2.2⟩ ?_ ?_ ?_ ?_ ?_
    · simp only [pI_1]
      rw [if_neg (by omega), if_neg (by omega), if_neg (by omega), if_neg (by omega)]
      exact a5
    · rw [hs_off (by omega), ks_off (by decide)]
      exact a6
    · rw [ea, fa 0 (by decide), fa 12 (by decide)]
      exact ⟨d1.1, d1.2.1, d1.2.2.1, u2_s, d1.2.2.2.2⟩
    · rw [eb]
      exact ⟨d3.1, d3.2.1, d3.2.2.1, u2_s, d3.2.2.2.2.1, d3.2.2.2.2.2⟩
    · intro j hj
      rw [ea, eb]
      exact okC_c (by rw [fa 1 (by decide)]) (by rw [fa 2 (by decide)]) (by rw [fa 3 (by decide)]) (by rw [fa 4 (by decide)]) (by rw [fb 4 (by decide)]) (by rw [fb 5 (by decide)]) (by rw [fb 6 (by decide)]) (by rw [fb 7 (by decide)]) (d4 j hj)
    · intro j hj
      rw [ea, eb]
      exact okT_c (by rw [fa 5 (by decide)]) (by rw [fa 6 (by decide)]) (by rw [fa 7 (by decide)]) (by rw [fb 8 (by decide)]) (by rw [fb 9 (by decide)]) (by rw [fb 10 (by decide)]) (d5 j hj)
    · intro j hj
      rw [ea, eb]
      exact okM_c (by rw [fa 9 (by decide)]) (by rw [fa 10 (by decide)]) (by rw [fa 11 (by decide)]) (by rw [fb 11 (by decide)]) (by rw [fb 12 (by decide)]) (by rw [fb 13 (by decide)]) (d6 j (by omega))
    · intro j hj
      rw [ea, eb]
      exact okR_c (by rw [fa 13 (by decide)]) (by rw [fa 14 (by decide)]) (by rw [fa 15 (by decide)]) (by rw [fb 19 (by decide)]) (by rw [fb 20 (by decide)]) (by rw [fb 21 (by decide)]) (d7 j hj)
set_option maxHeartbeats 1000000 in
theorem st_move : ∀ a b c : Int32, SP Inv (fun h => F_X6_move 0 a b c h) (fun k => F_X7_move 0 a b c k) := by
  rintro a b c h k ⟨d, w, C, K, T, M, R, I⟩
  have hS0 := SD_of I.1
  have hD0 := I.2.2.1.dr I.1
  have hS := SD_of I.1
  have hR := I.2.2.1
  have hD := hR.dr I.1
  have hM := I.2.2.2.1
  unfold RC at hR
  unfold SD at hS
  unfold DR at hD
  unfold RM at hM
  obtain ⟨e1, e2, e3⟩ := I.M
  obtain ⟨k1, -, k3⟩ := I.K
  obtain ⟨c1, c2, c3⟩ := I.C
  have hd : d + 21 ≤ 67 ∧ 22 < d := by rcases I.1 with rfl | rfl <;> decide
  dsimp only
  unfold F_X6_move F_X7_move
  rcases cheese_q I a with ⟨f1, f2⟩ | ⟨i, hi, rfl, f1, f2⟩
  · rw [f1, f2]
    exact ⟨-1, h, k, rfl, rfl, d, w, C, K, T, M, R, I⟩
  rw [f1, f2]
  unfold F_X7_isCellar
  simp only [bnd_s, if_neg (show ¬ (1 : Int32) = 0 by decide), hR, gO_s, hS, ck_t, c1, c2]
  rcases xrange C (by omega) c with (q | ⟨q, q2⟩) | ⟨y, hy, rfl⟩
  · simp only [if_pos q, bnd_s, if_true]
    exact ⟨-1, h, k, rfl, rfl, d, w, C, K, T, M, R, I⟩
  · simp only [if_neg q, if_pos q2, if_neg (Int32.not_lt.mpr q2), bnd_s, if_true]
    exact ⟨-1, h, k, rfl, rfl, d, w, C, K, T, M, R, I⟩
  simp only [if_neg (nI_pos (show y < 2 ^ 31 by omega)), if_neg (nI_ge hy (show C < 2 ^ 31 by omega)), if_pos (nI_lt hy (show C < 2 ^ 31 by omega)), bnd_s, if_neg (show ¬ (1 : Int32) = 0 by decide)]
  rcases day_q b h k with ⟨g1, g2⟩ | ⟨l, hl, rfl, g1, g2⟩
  · rw [g1, g2]
    exact ⟨-2, h, k, rfl, rfl, d, w, C, K, T, M, R, I⟩
  rw [g1, g2]
  simp only [bnd_s, if_neg (show ¬ (1 : Int32) = 0 by decide), hR, hD, gO_s, hS, ck_t, e2]
  rw [add_x e3 e1 (by simp only [hD]) (by simp only [hD]) (by simp only [hD]) (by simp only [hS]) (by simp only [hS]) (by simp only [hS])]
  obtain ⟨a1, a2, a3, a4, a5, a6, d1, d2, d3, d4, d5, d6, d7, d8⟩ := id I
  by_cases c8 : M < 8
  · rw [if_pos c8, if_neg (show ¬ nI M = (8 : Int32) from fun z => absurd ((nI_eq (b := 8) (by omega) (by decide)).mp z) (by omega))]
    have b11 := aIn_i (sh := shM) (q := 11) (n := 8) (by decide +kernel) c8 (by decide)
    have b12 := aIn_i (sh := shM) (q := 12) (n := 8) (by decide +kernel) c8 (by decide)
    have b13 := aIn_i (sh := shM) (q := 13) (n := 8) (by decide +kernel) c8 (by decide)
    have g1 : (pI k 11 M (nI i)).1 0 15 = nI M := e2
    have g2 : (pI (pI k 11 M (nI i)) 12 M (nI l)).1 0 15 = nI M := e2
    have g3 : (pI (pI (pI k 11 M (nI i)) 12 M (nI l)) 13 M (nI y)).1 0 15 = nI M := e2
    have g4 : (pI (pI (pI (pI k 11 M (nI i)) 12 M (nI l)) 13 M (nI y)) 0 15 (nI (M + 1))).1 0 15 = nI (M + 1) := rfl
    generalize hh : pI (pI (pI (pI h (d + 8 + 1) M (nI i)) (d + 8 + 2) M (nI l)) (d + 8 + 3) M (nI y)) (d + 8) 3 (nI (M + 1)) = h9
    have hh2 : h9.2 = h.2 := by rw [← hh]; rfl
    have hD1 : DR h9 d := by
      unfold DR
      rw [hh2]
      exact hD
    have m9 : h9.1 (d + 8) 3 = nI (M + 1) := by rw [← hh, pI_1, if_pos ⟨rfl, rfl⟩]
    have k9 : h9.1 d 1 = nI K := by
      rw [← hh, pI_1, if_neg (by omega), pI_1, if_neg (by omega), pI_1, if_neg (by omega), pI_1, if_neg (by omega)]
      exact k1
    simp only [bnd_s, hh2, hR, gO_s, hS, ck_t, carry_x hD1 hS0 m9 (show M + 1 ≤ 8 by omega) k9 k3]
    simp only [hM, ob_s, b11, b12, b13, ck_t, nm_x, cl_i (show M < 2 ^ 31 by omega), pI_2, g1, g2, g3, nI_1, g4]
    rw [show nI (M + 1) - 1 = nI M from nI_pred M]
    refine ⟨_, _, _, rfl, rfl, d, w, C, K, T, M + 1, R, ?_⟩
    have ea : dv h9 d = u2 (u2 (u2 (u2 (dv h d) 9 M (nI i)) 10 M (nI l)) 11 M (nI y)) 8 3 (nI (M + 1)) := by
      rw [← hh, dv_on (q := 8) (by decide), show d + 8 + 3 = d + 11 by omega, dv_on (q := 11) (by decide), show d + 8 + 2 = d + 10 by omega, dv_on (q := 10) (by decide), show d + 8 + 1 = d + 9 by omega, dv_on (q := 9) (by decide)]
    have eb : kd (pI (pI (pI (pI k 11 M (nI i)) 12 M (nI l)) 13 M (nI y)) 0 15 (nI (M + 1))) = u2 (u2 (u2 (u2 (kd k) 11 M (nI i)) 12 M (nI l)) 13 M (nI y)) 0 15 (nI (M + 1)) := by
      rw [kd_on (by omega), kd_on (by omega), kd_on (by omega), kd_on (by omega)]
    generalize hA : dv h9 d = A at ea
    generalize hB : kd (pI (pI (pI (pI k 11 M (nI i)) 12 M (nI l)) 13 M (nI y)) 0 15 (nI (M + 1))) = B at eb
    have fa : ∀ q, q < 8 ∨ 11 < q → A q = dv h d q := fun q q1 => by rw [ea, u2_q (by omega), u2_q (by omega), u2_q (by omega), u2_q (by omega)]
    have fb : ∀ q, (1 ≤ q ∧ q < 11) ∨ 13 < q → B q = kd k q := fun q q1 => by rw [eb, u2_q (by omega), u2_q (by omega), u2_q (by omega), u2_q (by omega)]
    refine In0.ofCarry a1 a2 (RC_c hh2 a3) (RM_c rfl a4) ?_ ?_ ?_ ⟨d2.1, d2.2.1, d2.2.2.1, by omega, d2.2.2.2.2⟩ ?_ ?_ ?_ ?_ ?_
    · rw [← hh]
      simp only [pI_1]
      rw [if_neg (by omega), if_neg (by omega), if_neg (by omega), if_neg (by omega), if_neg (by omega), if_neg (by omega), if_neg (by omega), if_neg (by omega), if_neg (by omega), if_neg (by omega), if_neg (by omega), if_neg (by omega), if_neg (by omega), if_neg (by omega), if_neg (by omega), if_neg (by omega)]
      exact a5
    · rw [← hh, hs_off (by omega), hs_off (by omega), hs_off (by omega), hs_off (by omega), ks_off (by decide), ks_off (by decide), ks_off (by decide), ks_off (by decide)]
      exact a6
    · rw [hA, fa 0 (by decide), fa 12 (by decide)]
      exact ⟨d1.1, d1.2.1, d1.2.2.1, by rw [ea]; exact u2_s, d1.2.2.2.2⟩
    · rw [hB, eb]
      exact ⟨d3.1, d3.2.1, d3.2.2.1, u2_s, d3.2.2.2.2.1, d3.2.2.2.2.2⟩
    · intro j hj
      rw [hA, hB]
      exact okC_c (by rw [fa 1 (by decide)]) (by rw [fa 2 (by decide)]) (by rw [fa 3 (by decide)]) (by rw [fa 4 (by decide)]) (by rw [fb 4 (by decide)]) (by rw [fb 5 (by decide)]) (by rw [fb 6 (by decide)]) (by rw [fb 7 (by decide)]) (d4 j hj)
    · intro j hj
      rw [hA, hB]
      exact okT_c (by rw [fa 5 (by decide)]) (by rw [fa 6 (by decide)]) (by rw [fa 7 (by decide)]) (by rw [fb 8 (by decide)]) (by rw [fb 9 (by decide)]) (by rw [fb 10 (by decide)]) (d5 j hj)
    · intro j hj
      rw [hA, hB, ea, eb]
      by_cases e : j = M
      · subst e
        exact ⟨⟨i, hi, by simp [u2]⟩, ⟨l, hl, by simp [u2]⟩, ⟨y, hy, by simp [u2]⟩, by simp [u2], by simp [u2], by simp [u2]⟩
      · exact okM_c (by simp [u2, e]) (by simp [u2, e]) (by simp [u2, e]) (by simp [u2, e]) (by simp [u2, e]) (by simp [u2, e]) (d6 j (by omega))
    · intro j hj
      rw [hA, hB]
      exact okR_c (by rw [fa 13 (by decide)]) (by rw [fa 14 (by decide)]) (by rw [fa 15 (by decide)]) (by rw [fb 19 (by decide)]) (by rw [fb 20 (by decide)]) (by rw [fb 21 (by decide)]) (d7 j hj)
  · have h8 : M = 8 := by omega
    subst h8
    rw [if_neg (by decide), if_pos (show nI 8 = (8 : Int32) from rfl)]
    simp only [bnd_s, hR, gO_s, hS, ck_t, carry_x hD0 hS0 e1 e3 k1 k3]
    exact ⟨_, _, _, rfl, rfl, d, w, C, K, T, 8, R, In0.ofCarry a1 a2 a3 a4 a5 a6 d1 d2 d3 d4 d5 d6 d7⟩
