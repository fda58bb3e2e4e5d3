theorem RC_c {h h' : Hp} {d w : Nat} (e : h'.2 = h.2) (hR : RC h d w) : RC h' d w := by
  unfold RC DR at hR ⊢
  rw [e]
  exact hR
theorem RM_c {k k' : Hp} (e : k'.2 = k.2) (hR : RM k) : RM k' := by
  unfold RM at hR ⊢
  rw [e]
  exact hR
theorem In0.frame {h k h' k' : Hp} {d w C K T M R : Nat} (I : In0 h k d w C K T M R) (e1 : h'.2 = h.2) (e2 : k'.2 = k.2) (e3 : k'.1 0 0 = h'.1 0 7) (e4 : k'.1 0 1 = h'.1 0 6) (e5 : hs h' = hs h) (e6 : ks k' = ks k) (e7 : dv h' d = dv h d) (e8 : kd k' = kd k) : In0 h' k' d w C K T M R := by
  obtain ⟨a1, a2, a3, a4, a5, a6, a7⟩ := I
  exact ⟨a1, a2, RC_c e1 a3, RM_c e2 a4, ⟨e3, e4⟩, by rw [e5, e6]; exact a6, by rw [e7, e8]; exact a7⟩
theorem dv_off {h : Hp} {q j d : Nat} {v : Int32} (hq : q < d ∨ d + 21 ≤ q) : dv (pI h q j v) d = dv h d := by
  funext x y
  unfold dv
  split
  · rw [pI_1, if_neg]
    omega
  · rfl
theorem dv_on {h : Hp} {q j d : Nat} {v : Int32} (hq : q < 21) : dv (pI h (d + q) j v) d = u2 (dv h d) q j v := by
  funext x y
  unfold dv u2
  dsimp only
  by_cases hx : x < 21
  · rw [if_pos hx, if_pos hx, pI_1]
    by_cases e : x = q ∧ y = j
    · rw [if_pos e, if_pos ⟨by omega, e.2⟩]
    · rw [if_neg e, if_neg (fun z => e ⟨by omega, z.2⟩)]
  · rw [if_neg hx, if_neg hx, if_neg (fun z => hx (by omega))]
theorem hs_off {h : Hp} {q j : Nat} {v : Int32} (hq : q < 67) : hs (pI h q j v) = hs h := by
  funext x y
  unfold hs
  split
  · rw [pI_1, if_neg (by omega)]
  · rfl
theorem ks_off {h : Hp} {q j : Nat} {v : Int32} (hq : q < 1 ∨ 3 < q) : ks (pI h q j v) = ks h := by
  funext x y
  unfold ks
  split
  · rw [pI_1, if_neg (by omega)]
  · rfl
theorem kd_off {h : Hp} {q j : Nat} {v : Int32} (hq : ¬ ((q = 0 ∧ (j = 5 ∨ j = 6 ∨ j = 7 ∨ j = 15 ∨ j = 19 ∨ j = 29)) ∨ (4 ≤ q ∧ q ≤ 13) ∨ (19 ≤ q ∧ q ≤ 21))) : kd (pI h q j v) = kd h := by
  funext x y
  unfold kd
  split
  · next hc =>
    rw [pI_1, if_neg]
    rintro ⟨rfl, rfl⟩
    exact hq hc
  · rfl
theorem kd_on {h : Hp} {q j : Nat} {v : Int32} (hq : (q = 0 ∧ (j = 5 ∨ j = 6 ∨ j = 7 ∨ j = 15 ∨ j = 19 ∨ j = 29)) ∨ (4 ≤ q ∧ q ≤ 13) ∨ (19 ≤ q ∧ q ≤ 21)) : kd (pI h q j v) = u2 (kd h) q j v := by
  funext x y
  unfold kd u2
  by_cases e : x = q ∧ y = j
  · obtain ⟨rfl, rfl⟩ := e
    rw [if_pos hq, pI_1, if_pos ⟨rfl, rfl⟩, if_pos ⟨rfl, rfl⟩]
  · rw [if_neg e, pI_1, if_neg e]
theorem kd_r {k : Hp} {q j : Nat} (hq : (q = 0 ∧ (j = 5 ∨ j = 6 ∨ j = 7 ∨ j = 15 ∨ j = 19 ∨ j = 29)) ∨ (4 ≤ q ∧ q ≤ 13) ∨ (19 ≤ q ∧ q ≤ 21)) : kd k q j = k.1 q j := if_pos hq
theorem dv_r {h : Hp} {d q j : Nat} (hq : q < 21) : dv h d q j = h.1 (d + q) j := if_pos hq
theorem dv_0 {h : Hp} {d j : Nat} : dv h d 0 j = h.1 d j := rfl
theorem hs_r {h : Hp} {q j : Nat} (hq : 67 ≤ q) : hs h q j = h.1 q j := if_pos hq
theorem ks_r {k : Hp} {q j : Nat} (hq : 1 ≤ q ∧ q ≤ 3) : ks k q j = k.1 q j := if_pos hq
/-! answers of the small tests -/
theorem xIsCheese {h : Hp} {d w : Nat} (hd : d = 23 ∨ d = 45) (hR : RC h d w) (x : Int32) : F_X6_isCheese 0 x h = some (if x < 0 then 0 else if h.1 d 1 ≤ x then 0 else 1, h) := by
  have hS := SD_of hd
  unfold RC at hR
  unfold SD at hS
  unfold F_X6_isCheese
  simp only [hR, gO_s, hS, ck_t]
  split
  · rfl
  · split <;> rfl
theorem mIsCheese {k : Hp} (x : Int32) : F_X7_isCheese 0 x k = some (if x < 0 then 0 else if k.1 0 6 ≤ x then 0 else 1, k) := by
  unfold F_X7_isCheese
  split
  · rfl
  · split <;> rfl
theorem In0.K {h k : Hp} {d w C K T M R : Nat} (I : In0 h k d w C K T M R) : h.1 d 1 = nI K ∧ k.1 0 6 = nI K ∧ K ≤ 4 := ⟨I.2.2.2.2.2.2.1.2.1, by rw [← kd_r (by decide)]; exact I.2.2.2.2.2.2.2.2.1.2.1, I.2.2.2.2.2.2.2.1.2.1⟩
theorem In0.T {h k : Hp} {d w C K T M R : Nat} (I : In0 h k d w C K T M R) : h.1 d 2 = nI T ∧ k.1 0 7 = nI T ∧ T ≤ 8 := ⟨I.2.2.2.2.2.2.1.2.2.1, by rw [← kd_r (by decide)]; exact I.2.2.2.2.2.2.2.2.1.2.2.1, I.2.2.2.2.2.2.2.1.2.2.1⟩
theorem In0.C {h k : Hp} {d w C K T M R : Nat} (I : In0 h k d w C K T M R) : h.1 d 0 = nI C ∧ k.1 0 5 = nI C ∧ C ≤ 5 := ⟨I.2.2.2.2.2.2.1.1, by rw [← kd_r (by decide)]; exact I.2.2.2.2.2.2.2.2.1.1, I.2.2.2.2.2.2.2.1.1⟩
theorem In0.M {h k : Hp} {d w C K T M R : Nat} (I : In0 h k d w C K T M R) : h.1 (d + 8) 3 = nI M ∧ k.1 0 15 = nI M ∧ M ≤ 8 := ⟨by rw [← dv_r (by decide)]; exact I.2.2.2.2.2.2.1.2.2.2.1, by rw [← kd_r (by decide)]; exact I.2.2.2.2.2.2.2.2.1.2.2.2.1, I.2.2.2.2.2.2.2.1.2.2.2.1⟩
theorem In0.R {h k : Hp} {d w C K T M R : Nat} (I : In0 h k d w C K T M R) : h.1 (d + 12) 3 = nI R ∧ k.1 0 29 = nI R ∧ R ≤ 8 := ⟨by rw [← dv_r (by decide)]; exact I.2.2.2.2.2.2.1.2.2.2.2, by rw [← kd_r (by decide)]; exact I.2.2.2.2.2.2.2.2.1.2.2.2.2.1, I.2.2.2.2.2.2.2.1.2.2.2.2⟩
/-- is it a cheese: both answer 1, and it is one; or both 0 -/
theorem cheese_q {h k : Hp} {d w C K T M R : Nat} (I : In0 h k d w C K T M R) (x : Int32) : (F_X6_isCheese 0 x h = some (0, h) ∧ F_X7_isCheese 0 x k = some (0, k)) ∨ ∃ i, i < K ∧ x = nI i ∧ F_X6_isCheese 0 x h = some (1, h) ∧ F_X7_isCheese 0 x k = some (1, k) := by
  rw [xIsCheese I.1 I.2.2.1, mIsCheese]
  obtain ⟨e1, e2, e3⟩ := I.K
  rw [e1, e2]
  rcases pk_ix x (show K < 2 ^ 31 by omega) with hx | hx | ⟨i, hi, hx⟩
  · left
    rw [if_pos hx]
    exact ⟨rfl, rfl⟩
  · left
    split
    · exact ⟨rfl, rfl⟩
    · exact ⟨rfl, rfl⟩
  · right
    refine ⟨i, hi, hx, ?_⟩
    rw [hx, if_neg (nI_pos (by omega)), if_neg (nI_ge hi (by omega))]
    exact ⟨rfl, rfl⟩
theorem xIsTalk {h : Hp} {d w : Nat} (hd : d = 23 ∨ d = 45) (hR : RC h d w) (x : Int32) : F_X6_isTalk 0 x h = some (if x < 0 then 0 else if h.1 d 2 ≤ x then 0 else 1, h) := by
  have hS := SD_of hd
  unfold RC at hR
  unfold SD at hS
  unfold F_X6_isTalk
  simp only [hR, gO_s, hS, ck_t]
  split
  · rfl
  · split <;> rfl
theorem mIsTalk {k : Hp} (x : Int32) : F_X7_isTalk 0 x k = some (if x < 0 then 0 else if k.1 0 7 ≤ x then 0 else 1, k) := by
  unfold F_X7_isTalk
  split
  · rfl
  · split <;> rfl
theorem talk_q {h k : Hp} {d w C K T M R : Nat} (I : In0 h k d w C K T M R) (x : Int32) : (F_X6_isTalk 0 x h = some (0, h) ∧ F_X7_isTalk 0 x k = some (0, k)) ∨ ∃ i, i < T ∧ x = nI i ∧ F_X6_isTalk 0 x h = some (1, h) ∧ F_X7_isTalk 0 x k = some (1, k) := by
  rw [xIsTalk I.1 I.2.2.1, mIsTalk]
  obtain ⟨e1, e2, e3⟩ := I.T
  rw [e1, e2]
  rcases pk_ix x (show T < 2 ^ 31 by omega) with hx | hx | ⟨i, hi, hx⟩
  · left
    rw [if_pos hx]
    exact ⟨rfl, rfl⟩
  · left
    split
    · exact ⟨rfl, rfl⟩
    · exact ⟨rfl, rfl⟩
  · right
    refine ⟨i, hi, hx, ?_⟩
    rw [hx, if_neg (nI_pos (by omega)), if_neg (nI_ge hi (by omega))]
    exact ⟨rfl, rfl⟩
theorem mWithin {k : Hp} (x a b : Int32) : F_X7_within x a b k = some (if x < a then 0 else if b < x then 0 else 1, k) := by
  unfold F_X7_within
  split
  · rfl
  · split <;> rfl
theorem in_q {lo : Int32} (n : Nat) (hn : n < 2 ^ 31) (hlo : lo = nI n) (x : Int32) : (x < 0 ∨ (¬ x < 0 ∧ lo < x)) ∨ ∃ i, i ≤ n ∧ x = nI i := by
  by_cases h0 : x < 0
  · exact Or.inl (Or.inl h0)
  · by_cases h1 : lo < x
    · exact Or.inl (Or.inr ⟨h0, h1⟩)
    · right
      rw [hlo] at h1
      have h2 : x ≤ nI n := Int32.not_lt.mp h1
      exact nI_of2 (nI_toInt hn) h0 h2
