theorem DR.car {h : Hp} {d : Nat} (hD : DR h d) (hS : SD d) {i : Nat} (hi : i < 4) : h.2 (d + 16) i = some (d + (17 + i)) ∧ shC[d + (17 + i)]? = some (1, 8) := by
  unfold DR at hD
  unfold SD at hS
  match i, hi with
  | 0, _ => exact ⟨by simp only [hD], by simp only [hS]⟩
  | 1, _ => exact ⟨by simp only [hD], by simp only [hS]⟩
  | 2, _ => exact ⟨by simp only [hD], by simp only [hS]⟩
  | 3, _ => exact ⟨by simp only [hD], by simp only [hS]⟩
theorem carriedTo_L {h : Hp} {d M : Nat} (hD : DR h d) (hS : SD d) (hM : h.1 (d + 8) 3 = nI M) (hM8 : M ≤ 8) (k t : Int32) : ∀ (N i : Nat) (l c : Int32), i ≤ M → M + 1 ≤ i + N → F_X0_carriedTo_L9 d k t N l c (nI i) h = some (carL (dv h d) k t (M - i) i l c, h) := by
  unfold DR at hD
  unfold SD at hS
  intro N
  induction N with
  | zero => intro i l c h1 h2; omega
  | succ N ih =>
    intro i l c h1 h2
    rw [F_X0_carriedTo_L9]
    simp only [hD, gO_s, hS, ck_t, hM]
    by_cases e : i = M
    · subst e
      rw [if_pos (Int32.le_refl _), Nat.sub_self]
      rfl
    · have ih := fun l c => ih (i + 1) l c (by omega) (by omega)
      have a9 := aIn_i hS.2.2.2.2.2.2.2.2.2.1 (show i < 8 by omega) (by decide)
      have a10 := aIn_i hS.2.2.2.2.2.2.2.2.2.2.1 (show i < 8 by omega) (by decide)
      have a11 := aIn_i hS.2.2.2.2.2.2.2.2.2.2.2.1 (show i < 8 by omega) (by decide)
      rw [if_neg (nI_ge (show i < M by omega) (by omega)), show M - i = (M - (i + 1)) + 1 by omega, carL]
      simp only [ob_s, a9, a10, a11, ck_t, nm_x, cl_i (show i < 2 ^ 31 by omega), nI_1, ih, dv_r (show 9 < 21 by decide), dv_r (show 10 < 21 by decide), dv_r (show 11 < 21 by decide)]
      repeat' split
      all_goals rfl
theorem carriedTo_x {h : Hp} {d M : Nat} (hD : DR h d) (hS : SD d) (hM : h.1 (d + 8) 3 = nI M) (hM8 : M ≤ 8) (k t : Int32) : F_X0_carriedTo d k t h = some (car (dv h d) M k t, h) := by
  unfold F_X0_carriedTo car
  have h1 := carriedTo_L hD hS hM hM8 k t FU 0 0 (-9) (by omega) (by unfold FU; omega)
  rw [nI_0] at h1
  exact h1
theorem carL_c {a a' : Dv} (h9 : a' 9 = a 9) (h10 : a' 10 = a 10) (h11 : a' 11 = a 11) (k t : Int32) : ∀ n i l c, carL a' k t n i l c = carL a k t n i l c := by
  intro n
  induction n with
  | zero => intro i l c; rfl
  | succ n ih =>
    intro i l c
    rw [carL, carL, h9, h10, h11]
    simp only [ih]
theorem car_c {a a' : Dv} (h9 : a' 9 = a 9) (h10 : a' 10 = a 10) (h11 : a' 11 = a 11) {M : Nat} {k t : Int32} : car a' M k t = car a M k t := carL_c h9 h10 h11 k t M 0 0 (-9)
/-- the carried rows of cheeses below i, and of cheese i the days below t, found anew -/
def pCar (h : Hp) (d M i t : Nat) : Hp := (fun q s => if (d + 17 ≤ q ∧ q < d + 17 + i ∧ s < 8) ∨ (q = d + 17 + i ∧ s < t) then car (dv h d) M (nI (q - (d + 17))) (nI s) else h.1 q s, h.2)
theorem pCar_1 {h : Hp} {d M i t q s : Nat} : (pCar h d M i t).1 q s = if (d + 17 ≤ q ∧ q < d + 17 + i ∧ s < 8) ∨ (q = d + 17 + i ∧ s < t) then car (dv h d) M (nI (q - (d + 17))) (nI s) else h.1 q s := rfl
theorem pCar_0 {h : Hp} {d M : Nat} : pCar h d M 0 0 = h := by
  refine Prod.ext ?_ rfl
  funext q s
  rw [pCar_1, if_neg (by omega)]
theorem pCar_n {h : Hp} {d M i : Nat} : pCar h d M i 8 = pCar h d M (i + 1) 0 := by
  refine Prod.ext ?_ rfl
  funext q s
  rw [pCar_1, pCar_1]
  by_cases e : (d + 17 ≤ q ∧ q < d + 17 + i ∧ s < 8) ∨ (q = d + 17 + i ∧ s < 8)
  · rw [if_pos e, if_pos (by omega)]
  · rw [if_neg e, if_neg (by omega)]
theorem pCar_off {h : Hp} {d M i t q : Nat} (hq : q < d + 17 ∨ d + 17 + i < q) : (pCar h d M i t).1 q = h.1 q := by
  funext s
  rw [pCar_1, if_neg (by omega)]
theorem pCar_s {h : Hp} {d M i t : Nat} (ht : t < 8) : pI (pCar h d M i t) (d + (17 + i)) t (car (dv h d) M (nI i) (nI t)) = pCar h d M i (t + 1) := by
  refine Prod.ext ?_ rfl
  funext q s
  rw [pI_1, pCar_1, pCar_1]
  by_cases e : q = d + (17 + i) ∧ s = t
  · rw [if_pos e, if_pos (by omega), e.1, e.2, show d + (17 + i) - (d + 17) = i by omega]
  · rw [if_neg e]
    by_cases e2 : (d + 17 ≤ q ∧ q < d + 17 + i ∧ s < 8) ∨ (q = d + 17 + i ∧ s < t)
    · rw [if_pos e2, if_pos (by omega)]
    · rw [if_neg e2, if_neg (by omega)]
theorem dv_row {h : Hp} {d q : Nat} (hq : q < 21) : dv h d q = h.1 (d + q) := by
  funext j
  exact dv_r hq
theorem carry_L12 {h : Hp} {d M : Nat} (hD : DR h d) (hS : SD d) (hM : h.1 (d + 8) 3 = nI M) (hM8 : M ≤ 8) {i : Nat} (hi : i < 4) (kk : Hp → Option (Unit × Hp)) : ∀ (N t : Nat), t ≤ 8 → 9 ≤ t + N → F_X0_carry_L12 kk d (nI i) N (nI t) (pCar h d M i t) = kk (pCar h d M i 8) := by
  intro N
  induction N with
  | zero => intro t h1 h2; omega
  | succ N ih =>
    intro t h1 h2
    rw [F_X0_carry_L12]
    by_cases e : t = 8
    · subst e
      rw [if_pos (show (8 : Int32) ≤ nI 8 from Int32.le_refl _)]
    · obtain ⟨r1, r2⟩ := hD.car hS hi
      have hD2 : DR (pCar h d M i t) d := hD
      have hc : (pCar h d M i t).1 (d + 8) 3 = nI M := by rw [pCar_off (by omega)]; exact hM
      have hcar : car (dv (pCar h d M i t) d) M (nI i) (nI t) = car (dv h d) M (nI i) (nI t) := by
        refine car_c ?_ ?_ ?_
        · rw [dv_row (by decide), dv_row (by decide), pCar_off (by omega)]
        · rw [dv_row (by decide), dv_row (by decide), pCar_off (by omega)]
        · rw [dv_row (by decide), dv_row (by decide), pCar_off (by omega)]
      have h12 : h.2 d 12 = some (d + 16) := by unfold DR at hD; simp only [hD]
      have hs16 : shC[d + 16]? = some (3, 4) := by unfold SD at hS; simp only [hS]
      have e2 : (pCar h d M i t).2 = h.2 := rfl
      rw [if_neg (show ¬ (8 : Int32) ≤ nI t from nI_ge (b := 8) (by omega) (by decide))]
      simp only [e2, h12, ob_s, aRn_i (kd := 3) hs16 hi (by decide), ck_t, cl_i (show i < 2 ^ 31 by omega), r1, carriedTo_x hD2 hS hc hM8, hcar, bnd_s, aIn_i r2 (show t < 8 by omega) (by decide), nm_x, cl_i (show t < 2 ^ 31 by omega), pCar_s (show t < 8 by omega), nI_1]
      exact ih (t + 1) (by omega) (by omega)
theorem carry_L2 {h : Hp} {d M K : Nat} (hD : DR h d) (hS : SD d) (hM : h.1 (d + 8) 3 = nI M) (hM8 : M ≤ 8) (hK : h.1 d 1 = nI K) (hK4 : K ≤ 4) : ∀ (N i : Nat), i ≤ K → K + 1 ≤ i + N → F_X0_carry_L2 d N (nI i) (pCar h d M i 0) = some ((), pCar h d M K 0) := by
  intro N
  induction N with
  | zero => intro i h1 h2; omega
  | succ N ih =>
    intro i h1 h2
    have hK2 : (pCar h d M i 0).1 d 1 = nI K := by rw [pCar_off (by omega)]; exact hK
    rw [F_X0_carry_L2, hK2]
    by_cases e : i = K
    · subst e
      rw [if_pos (Int32.le_refl _)]
    · rw [if_neg (nI_ge (show i < K by omega) (by omega))]
      have h3 := carry_L12 hD hS hM hM8 (show i < 4 by omega) (fun h15 => nm (nI i + (1 : Int32)) fun x16 => F_X0_carry_L2 d N x16 h15) FU 0 (by omega) (by unfold FU; omega)
      rw [nI_0] at h3
      rw [h3]
      simp only [nm_x, pCar_n, nI_1]
      exact ih (i + 1) (by omega) (by omega)
theorem carry_x {h : Hp} {d M K : Nat} (hD : DR h d) (hS : SD d) (hM : h.1 (d + 8) 3 = nI M) (hM8 : M ≤ 8) (hK : h.1 d 1 = nI K) (hK4 : K ≤ 4) : F_X0_carry d h = some ((), pCar h d M K 0) := by
  unfold F_X0_carry
  have h1 := carry_L2 hD hS hM hM8 hK hK4 FU 0 (by omega) (by unfold FU; omega)
  rw [pCar_0, nI_0] at h1
  exact h1
theorem dv_pCar {h : Hp} {d M K q : Nat} (hq : q < 17) : dv (pCar h d M K 0) d q = dv h d q := by
  rw [dv_row (by omega), dv_row (by omega), pCar_off (by omega)]
/-- behind carry all holds, if all but the carried rows held before -/
theorem In0.ofCarry {h k : Hp} {d w C K T M R : Nat} (a1 : d = 23 ∨ d = 45) (a2 : w = 21 ∨ w = 22) (a3 : RC h d w) (a4 : RM k) (a5 : k.1 0 0 = h.1 0 7 ∧ k.1 0 1 = h.1 0 6) (a6 : ∀ i, i < 4 → Sht (hs h) (ks k) i)
    (d1 : dv h d 0 0 = nI C ∧ dv h d 0 1 = nI K ∧ dv h d 0 2 = nI T ∧ dv h d 8 3 = nI M ∧ dv h d 12 3 = nI R) (d2 : C ≤ 5 ∧ K ≤ 4 ∧ T ≤ 8 ∧ M ≤ 8 ∧ R ≤ 8) (d3 : kd k 0 5 = nI C ∧ kd k 0 6 = nI K ∧ kd k 0 7 = nI T ∧ kd k 0 15 = nI M ∧ kd k 0 29 = nI R ∧ kd k 0 19 = 0)
    (d4 : ∀ i, i < K → okC (dv h d) (kd k) C i) (d5 : ∀ t, t < T → okT (dv h d) (kd k) C t) (d6 : ∀ i, i < M → okM (dv h d) (kd k) C K i) (d7 : ∀ i, i < R → okR (dv h d) (kd k) K i) : In0 (pCar h d M K 0) k d w C K T M R := by
  have hq : ∀ q, q < 17 → dv (pCar h d M K 0) d q = dv h d q := fun q hq => dv_pCar hq
  have e7 : ∀ q, q < 23 → (pCar h d M K 0).1 q = h.1 q := fun q hq => pCar_off (by rcases a1 with rfl | rfl <;> omega)
  refine ⟨a1, a2, RC_c rfl a3, a4, ?_, ?_, ?_, d2, d3, ?_, ?_, ?_, ?_, ?_⟩
  · rw [e7 0 (by decide)]
    exact a5
  · have : hs (pCar h d M K 0) = hs h := by
      funext q s
      unfold hs
      split
      · rw [pCar_off (by rcases a1 with rfl | rfl <;> omega)]
      · rfl
    rw [this]
    exact a6
  · rw [hq 0 (by decide), hq 8 (by decide), hq 12 (by decide)]
    exact d1
  · intro i hi
    have := d4 i hi
    unfold okC at this ⊢
    rw [hq 1 (by decide), hq 2 (by decide), hq 3 (by decide), hq 4 (by decide)]
    exact this
  · intro i hi
    have := d5 i hi
    unfold okT at this ⊢
    rw [hq 5 (by decide), hq 6 (by decide), hq 7 (by decide)]
    exact this
  · intro i hi
    have := d6 i hi
    unfold okM at this ⊢
    rw [hq 9 (by decide), hq 10 (by decide), hq 11 (by decide)]
    exact this
  · intro i hi
    have := d7 i hi
    unfold okR at this ⊢
    rw [hq 13 (by decide), hq 14 (by decide), hq 15 (by decide)]
    exact this
  · intro i hi t ht
    rw [car_c (hq 9 (by decide)) (hq 10 (by decide)) (hq 11 (by decide)), dv_r (by omega), pCar_1, if_pos (by omega), show d + (17 + i) - (d + 17) = i by omega]
theorem takeBack_x {h : Hp} {q n : Nat} (hn : n ≤ 8) (hq : h.1 q 3 = nI n) (x : Int32) : ((x < 0 ∨ (¬ x < 0 ∧ nI n < x)) ∧ F_X3_takeBack q x h = some (-2, h)) ∨ ∃ i, i ≤ n ∧ x = nI i ∧ F_X3_takeBack q x h = some (nI (n - i), pI h q 3 (nI (n - i))) := by
  unfold F_X3_takeBack
  rw [hq]
  rcases in_q n (by omega) rfl x with (c | ⟨c, c2⟩) | ⟨i, hi, rfl⟩
  · left
    rw [if_pos c]
    exact ⟨Or.inl c, rfl⟩
  · left
    rw [if_neg c, if_neg (Int32.not_le.mpr c2)]
    exact ⟨Or.inr ⟨c, c2⟩, rfl⟩
  · right
    refine ⟨i, hi, rfl, ?_⟩
    rw [if_neg (nI_pos (by omega)), if_pos (nI_le hi (by omega)), pk_sub hi, nm_x]
    have : (pI h q 3 (nI (n - i))).1 q 3 = nI (n - i) := by rw [pI_1, if_pos ⟨rfl, rfl⟩]
    rw [this]
theorem within_n {k : Hp} {n : Nat} (hn : n ≤ 8) {x : Int32} : ((x < 0 ∨ (¬ x < 0 ∧ nI n < x)) → F_X7_within x 0 (nI n) k = some (0, k)) ∧ ∀ i, i ≤ n → x = nI i → F_X7_within x 0 (nI n) k = some (1, k) := by
  refine ⟨fun hx => ?_, fun i hi hx => ?_⟩
  · rw [mWithin]
    rcases hx with c | ⟨c, c2⟩
    · rw [if_pos c]
    · rw [if_neg c, if_pos c2]
  · subst hx
    rw [mWithin, if_neg (nI_pos (by omega)), if_neg (nI_nlt hi (by omega))]
theorem st_back : ∀ a : Int32, SP Inv (fun h => F_X6_back 0 a h) (fun k => F_X7_back 0 a k) := by
  rintro a h k ⟨d, w, C, K, T, M, R, I⟩
  have hS := SD_of I.1
  have hR := I.2.2.1
  have hD := hR.dr I.1
  have hM := I.2.2.2.1
  unfold RC at hR
  unfold SD at hS
  unfold DR at hD
  unfold RM at hM
  obtain ⟨e1, e2, e3⟩ := I.R
  dsimp only
  unfold F_X6_back F_X7_back
  simp only [hR, hD, gO_s, hS, ck_t, e2]
  rcases takeBack_x e3 e1 a with ⟨c, f⟩ | ⟨i, hi, rfl, f⟩
  · rw [f, (within_n e3).1 c]
    exact ⟨_, h, k, rfl, rfl, d, w, C, K, T, M, R, I⟩
  · rw [f, (within_n e3).2 i hi rfl]
    simp only [bnd_s, if_neg (show ¬ (1 : Int32) = 0 by decide), nm_x, e2, pk_sub hi]
    refine ⟨_, _, _, rfl, rfl, d, w, C, K, T, M, R - i, ?_⟩
    obtain ⟨a1, a2, a3, a4, a5, a6, d1, d2, d3, d4, d5, d6, d7, d8⟩ := I
    refine ⟨a1, a2, RC_c rfl a3, a4, ?_, ?_, ?_⟩
    · rw [pI_1, pI_1, pI_1, pI_1, if_neg (by omega), if_neg (by omega), if_neg (by omega), if_neg (by omega)]
      exact a5
    · rw [hs_off (by rcases a1 with rfl | rfl <;> decide), ks_off (by decide)]
      exact a6
    · rw [dv_on (by decide), kd_on (by decide)]
      have f9 : ∀ q, q ≠ 12 → u2 (dv h d) 12 3 (nI (R - i)) q = dv h d q := fun q hq => u2_q hq
      have g9 : ∀ q, q ≠ 0 → u2 (kd k) 0 29 (nI (R - i)) q = kd k q := fun q hq => u2_q hq
      refine ⟨?_, ⟨d2.1, d2.2.1, d2.2.2.1, d2.2.2.2.1, by omega⟩, ?_, ?_, ?_, ?_, ?_, ?_⟩
      · exact ⟨d1.1, d1.2.1, d1.2.2.1, d1.2.2.2.1, u2_s⟩
      · exact ⟨d3.1, d3.2.1, d3.2.2.1, d3.2.2.2.1, u2_s, d3.2.2.2.2.2⟩
      · intro j hj
        have := d4 j hj
        unfold okC at this ⊢
        simp only [f9 _ (show (1 : Nat) ≠ 12 by decide), f9 _ (show (2 : Nat) ≠ 12 by decide), f9 _ (show (3 : Nat) ≠ 12 by decide), f9 _ (show (4 : Nat) ≠ 12 by decide), g9 _ (show (4 : Nat) ≠ 0 by decide), g9 _ (show (5 : Nat) ≠ 0 by decide), g9 _ (show (6 : Nat) ≠ 0 by decide), g9 _ (show (7 : Nat) ≠ 0 by decide)]
        exact this
      · intro j hj
        have := d5 j hj
        unfold okT at this ⊢
        simp only [f9 _ (show (5 : Nat) ≠ 12 by decide), f9 _ (show (6 : Nat) ≠ 12 by decide), f9 _ (show (7 : Nat) ≠ 12 by decide), g9 _ (show (8 : Nat) ≠ 0 by decide), g9 _ (show (9 : Nat) ≠ 0 by decide), g9 _ (show (10 : Nat) ≠ 0 by decide)]
        exact this
      · intro j hj
        have := d6 j hj
        unfold okM at this ⊢
        simp only [f9 _ (show (9 : Nat) ≠ 12 by decide), f9 _ (show (10 : Nat) ≠ 12 by decide), f9 _ (show (11 : Nat) ≠ 12 by decide), g9 _ (show (11 : Nat) ≠ 0 by decide), g9 _ (show (12 : Nat) ≠ 0 by decide), g9 _ (show (13 : Nat) ≠ 0 by decide)]
        exact this
      · intro j hj
        have := d7 j (by omega)
        unfold okR at this ⊢
        simp only [f9 _ (show (13 : Nat) ≠ 12 by decide), f9 _ (show (14 : Nat) ≠ 12 by decide), f9 _ (show (15 : Nat) ≠ 12 by decide), g9 _ (show (19 : Nat) ≠ 0 by decide), g9 _ (show (20 : Nat) ≠ 0 by decide), g9 _ (show (21 : Nat) ≠ 0 by decide)]
        exact this
      · intro j hj t ht
        rw [f9 _ (show 17 + j ≠ 12 by omega), car_c (f9 _ (by decide)) (f9 _ (by decide)) (f9 _ (by decide))]
        exact d8 j hj t ht
