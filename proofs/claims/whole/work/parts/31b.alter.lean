theorem soX_c {h h' : Hp} {d : Nat} (e : ∀ q, q < 21 → h'.1 (d + q) = h.1 (d + q)) {T R K : Nat} (hx : ∀ r, r < R → ∃ x, x < 4 ∧ h.1 (d + 13) r = nI x) : soX h' d T R = soX h d T R := by
  unfold soX
  rw [e 15 (by decide)]
  refine soL_c R 0 (fun r _ hr => ?_)
  obtain ⟨x, hx, ex⟩ := hx r (by omega)
  unfold rdV
  rw [e 13 (by decide), e 14 (by decide), e 7 (by decide), ex, cl_i (show x < 2 ^ 31 by omega), Hn_c e hx]
def adm (q m C : Nat) (v : Int32) : Prop := (q = 1 ∧ m = 4 ∧ ∃ x, x < 3 ∧ v = nI x) ∨ (q = 2 ∧ m = 5 ∧ ∃ x, x < C ∧ v = nI x) ∨ (q = 6 ∧ m = 9 ∧ ∃ x, 0 < x ∧ x < 10 ∧ v = nI x) ∨ (q = 7 ∧ m = 10 ∧ ∃ x, x < 8 ∧ v = nI x)
theorem Dy_alter {a b : Dv} {C K T M R q m j : Nat} {v : Int32} (hq : adm q m C v) (D : Dy a b C K T M R) : Dy (u2 a q j v) (u2 b m j v) C K T M R := by
  obtain ⟨d1, d2, d3, d4, d5, d6, d7, d8⟩ := D
  rcases hq with ⟨rfl, rfl, x, hx, rfl⟩ | ⟨rfl, rfl, x, hx, rfl⟩ | ⟨rfl, rfl, x, hx0, hx, rfl⟩ | ⟨rfl, rfl, x, hx, rfl⟩
  · have fa : ∀ r, r ≠ 1 → u2 a 1 j (nI x) r = a r := fun r hr => u2_q hr
    have fb : ∀ r, r ≠ 4 → u2 b 4 j (nI x) r = b r := fun r hr => u2_q hr
    refine ⟨?_, d2, ?_, ?_, ?_, ?_, ?_, ?_⟩
    · rw [fa 0 (by decide), fa 8 (by decide), fa 12 (by decide)]
      exact d1
    · rw [fb 0 (by decide)]
      exact d3
    · intro i hi
      by_cases e : i = j
      · subst e
        obtain ⟨o1, o2, o3, o4, o5, o6, o7, o8⟩ := d4 i hi
        exact ⟨⟨x, hx, u2_s⟩, by rw [fa 2 (by decide)]; exact o2, by rw [fa 3 (by decide)]; exact o3, by rw [fa 4 (by decide)]; exact o4, u2_s.trans u2_s.symm, by rw [fa 2 (by decide), fb 5 (by decide)]; exact o6, by rw [fa 3 (by decide), fb 6 (by decide)]; exact o7, by rw [fa 4 (by decide), fb 7 (by decide)]; exact o8⟩
      · exact okC_c (u2_j e) (by rw [fa 2 (by decide)]) (by rw [fa 3 (by decide)]) (by rw [fa 4 (by decide)]) (u2_j e) (by rw [fb 5 (by decide)]) (by rw [fb 6 (by decide)]) (by rw [fb 7 (by decide)]) (d4 i hi)
    · intro i hi
      exact okT_c (by rw [fa 5 (by decide)]) (by rw [fa 6 (by decide)]) (by rw [fa 7 (by decide)]) (by rw [fb 8 (by decide)]) (by rw [fb 9 (by decide)]) (by rw [fb 10 (by decide)]) (d5 i hi)
    · intro i hi
      exact okM_c (by rw [fa 9 (by decide)]) (by rw [fa 10 (by decide)]) (by rw [fa 11 (by decide)]) (by rw [fb 11 (by decide)]) (by rw [fb 12 (by decide)]) (by rw [fb 13 (by decide)]) (d6 i hi)
    · intro i hi
      exact okR_c (by rw [fa 13 (by decide)]) (by rw [fa 14 (by decide)]) (by rw [fa 15 (by decide)]) (by rw [fb 19 (by decide)]) (by rw [fb 20 (by decide)]) (by rw [fb 21 (by decide)]) (d7 i hi)
    · intro i hi t ht
      rw [fa (17 + i) (by omega), car_c (fa 9 (by decide)) (fa 10 (by decide)) (fa 11 (by decide))]
      exact d8 i hi t ht
  · have fa : ∀ r, r ≠ 2 → u2 a 2 j (nI x) r = a r := fun r hr => u2_q hr
    have fb : ∀ r, r ≠ 5 → u2 b 5 j (nI x) r = b r := fun r hr => u2_q hr
    refine ⟨?_, d2, ?_, ?_, ?_, ?_, ?_, ?_⟩
    · rw [fa 0 (by decide), fa 8 (by decide), fa 12 (by decide)]
      exact d1
    · rw [fb 0 (by decide)]
      exact d3
    · intro i hi
      by_cases e : i = j
      · subst e
        obtain ⟨o1, o2, o3, o4, o5, o6, o7, o8⟩ := d4 i hi
        exact ⟨by rw [fa 1 (by decide)]; exact o1, ⟨x, hx, u2_s⟩, by rw [fa 3 (by decide)]; exact o3, by rw [fa 4 (by decide)]; exact o4, by rw [fa 1 (by decide), fb 4 (by decide)]; exact o5, u2_s.trans u2_s.symm, by rw [fa 3 (by decide), fb 6 (by decide)]; exact o7, by rw [fa 4 (by decide), fb 7 (by decide)]; exact o8⟩
      · exact okC_c (by rw [fa 1 (by decide)]) (u2_j e) (by rw [fa 3 (by decide)]) (by rw [fa 4 (by decide)]) (by rw [fb 4 (by decide)]) (u2_j e) (by rw [fb 6 (by decide)]) (by rw [fb 7 (by decide)]) (d4 i hi)
    · intro i hi
      exact okT_c (by rw [fa 5 (by decide)]) (by rw [fa 6 (by decide)]) (by rw [fa 7 (by decide)]) (by rw [fb 8 (by decide)]) (by rw [fb 9 (by decide)]) (by rw [fb 10 (by decide)]) (d5 i hi)
    · intro i hi
      exact okM_c (by rw [fa 9 (by decide)]) (by rw [fa 10 (by decide)]) (by rw [fa 11 (by decide)]) (by rw [fb 11 (by decide)]) (by rw [fb 12 (by decide)]) (by rw [fb 13 (by decide)]) (d6 i hi)
    · intro i hi
      exact okR_c (by rw [fa 13 (by decide)]) (by rw [fa 14 (by decide)]) (by rw [fa 15 (by decide)]) (by rw [fb 19 (by decide)]) (by rw [fb 20 (by decide)]) (by rw [fb 21 (by decide)]) (d7 i hi)
    · intro i hi t ht
      rw [fa (17 + i) (by omega), car_c (fa 9 (by decide)) (fa 10 (by decide)) (fa 11 (by decide))]
      exact d8 i hi t ht
  · have fa : ∀ r, r ≠ 6 → u2 a 6 j (nI x) r = a r := fun r hr => u2_q hr
    have fb : ∀ r, r ≠ 9 → u2 b 9 j (nI x) r = b r := fun r hr => u2_q hr
    refine ⟨?_, d2, ?_, ?_, ?_, ?_, ?_, ?_⟩
    · rw [fa 0 (by decide), fa 8 (by decide), fa 12 (by decide)]
      exact d1
    · rw [fb 0 (by decide)]
      exact d3
    · intro i hi
      exact okC_c (by rw [fa 1 (by decide)]) (by rw [fa 2 (by decide)]) (by rw [fa 3 (by decide)]) (by rw [fa 4 (by decide)]) (by rw [fb 4 (by decide)]) (by rw [fb 5 (by decide)]) (by rw [fb 6 (by decide)]) (by rw [fb 7 (by decide)]) (d4 i hi)
    · intro i hi
      by_cases e : i = j
      · subst e
        obtain ⟨o1, o2, o3, o4, o5, o6⟩ := d5 i hi
        exact ⟨by rw [fa 5 (by decide)]; exact o1, ⟨x, hx0, hx, u2_s⟩, by rw [fa 7 (by decide)]; exact o3, by rw [fa 5 (by decide), fb 8 (by decide)]; exact o4, u2_s.trans u2_s.symm, by rw [fa 7 (by decide), fb 10 (by decide)]; exact o6⟩
      · exact okT_c (by rw [fa 5 (by decide)]) (u2_j e) (by rw [fa 7 (by decide)]) (by rw [fb 8 (by decide)]) (u2_j e) (by rw [fb 10 (by decide)]) (d5 i hi)
    · intro i hi
      exact okM_c (by rw [fa 9 (by decide)]) (by rw [fa 10 (by decide)]) (by rw [fa 11 (by decide)]) (by rw [fb 11 (by decide)]) (by rw [fb 12 (by decide)]) (by rw [fb 13 (by decide)]) (d6 i hi)
    · intro i hi
      exact okR_c (by rw [fa 13 (by decide)]) (by rw [fa 14 (by decide)]) (by rw [fa 15 (by decide)]) (by rw [fb 19 (by decide)]) (by rw [fb 20 (by decide)]) (by rw [fb 21 (by decide)]) (d7 i hi)
    · intro i hi t ht
      rw [fa (17 + i) (by omega), car_c (fa 9 (by decide)) (fa 10 (by decide)) (fa 11 (by decide))]
      exact d8 i hi t ht
  · have fa : ∀ r, r ≠ 7 → u2 a 7 j (nI x) r = a r := fun r hr => u2_q hr
    have fb : ∀ r, r ≠ 10 → u2 b 10 j (nI x) r = b r := fun r hr => u2_q hr
    refine ⟨?_, d2, ?_, ?_, ?_, ?_, ?_, ?_⟩
    · rw [fa 0 (by decide), fa 8 (by decide), fa 12 (by decide)]
      exact d1
    · rw [fb 0 (by decide)]
      exact d3
    · intro i hi
      exact okC_c (by rw [fa 1 (by decide)]) (by rw [fa 2 (by decide)]) (by rw [fa 3 (by decide)]) (by rw [fa 4 (by decide)]) (by rw [fb 4 (by decide)]) (by rw [fb 5 (by decide)]) (by rw [fb 6 (by decide)]) (by rw [fb 7 (by decide)]) (d4 i hi)
    · intro i hi
      by_cases e : i = j
      · subst e
        obtain ⟨o1, o2, o3, o4, o5, o6⟩ := d5 i hi
        exact ⟨by rw [fa 5 (by decide)]; exact o1, by rw [fa 6 (by decide)]; exact o2, ⟨x, hx, u2_s⟩, by rw [fa 5 (by decide), fb 8 (by decide)]; exact o4, by rw [fa 6 (by decide), fb 9 (by decide)]; exact o5, u2_s.trans u2_s.symm⟩
      · exact okT_c (by rw [fa 5 (by decide)]) (by rw [fa 6 (by decide)]) (u2_j e) (by rw [fb 8 (by decide)]) (by rw [fb 9 (by decide)]) (u2_j e) (d5 i hi)
    · intro i hi
      exact okM_c (by rw [fa 9 (by decide)]) (by rw [fa 10 (by decide)]) (by rw [fa 11 (by decide)]) (by rw [fb 11 (by decide)]) (by rw [fb 12 (by decide)]) (by rw [fb 13 (by decide)]) (d6 i hi)
    · intro i hi
      exact okR_c (by rw [fa 13 (by decide)]) (by rw [fa 14 (by decide)]) (by rw [fa 15 (by decide)]) (by rw [fb 19 (by decide)]) (by rw [fb 20 (by decide)]) (by rw [fb 21 (by decide)]) (d7 i hi)
    · intro i hi t ht
      rw [fa (17 + i) (by omega), car_c (fa 9 (by decide)) (fa 10 (by decide)) (fa 11 (by decide))]
      exact d8 i hi t ht
theorem adm_r {q m C : Nat} {v : Int32} (hq : adm q m C v) : 0 < q ∧ q < 8 ∧ 4 ≤ m ∧ m ≤ 10 := by
  rcases hq with ⟨rfl, rfl, -⟩ | ⟨rfl, rfl, -⟩ | ⟨rfl, rfl, -⟩ | ⟨rfl, rfl, -⟩ <;> decide
theorem In0.alter {h k : Hp} {d w C K T M R : Nat} (I : In0 h k d w C K T M R) {q m j : Nat} {v : Int32} (hq : adm q m C v) : In0 (pI h (d + q) j v) (pI k m j v) d w C K T M R := by
  have hr := adm_r hq
  have hd : 22 < d ∧ d < 46 := by rcases I.1 with rfl | rfl <;> decide
  obtain ⟨a1, a2, a3, a4, a5, a6, a7⟩ := I
  refine ⟨a1, a2, RC_c rfl a3, RM_c rfl a4, ?_, ?_, ?_⟩
  · rw [pI_1, pI_1, pI_1, pI_1, if_neg (by omega), if_neg (by omega), if_neg (by omega), if_neg (by omega)]
    exact a5
  · rw [hs_off (by omega), ks_off (by omega)]
    exact a6
  · rw [dv_on (by omega), kd_on (by omega)]
    exact Dy_alter hq a7
def ftL (g : Nat → Int32) : Nat → Nat → Int32 → Int32
  | 0, _, s => s
  | n + 1, v, s => ftL g n (v + 1) (if g v = 0 then s else s ||| ((1 : Int32) <<< (nI v &&& 31)))
theorem fit_L {h k : Hp} {d w C K T M R : Nat} (I : In0 h k d w C K T M R) {q m at_ lo hi : Nat} (hat : at_ < 8) (sh : ∃ n, shC[d + q]? = some (1, n) ∧ at_ < n ∧ n < 100) (hhi : hi < 100) (hq : ∀ v, lo ≤ v → v ≤ hi → adm q m C (nI v)) (q8 : 0 < q ∧ q < 8) : ∀ (N v : Nat) (s : Int32) (h' : Hp), h'.2 = h.2 → (∀ r, r ≠ d + 21 → r ≠ d + q → h'.1 r = h.1 r) → (∀ j, j ≠ at_ → h'.1 (d + q) j = h.1 (d + q) j) → lo ≤ v → v ≤ hi + 1 → hi + 2 ≤ v + N →
    ∃ h'', F_X6_fitting_L11 0 (d + q) (nI at_) (nI hi) (h.1 (d + q) at_) N s (nI v) h' = some (ftL (fun x => soX (pI h (d + q) at_ (nI x)) d T R) (hi + 1 - v) v s, h'') ∧ h''.2 = h.2 ∧ ∀ r, r ≠ d + 21 → h''.1 r = h.1 r := by
  have hS := SD_of I.1
  have hR := I.2.2.1
  have hD := hR.dr I.1
  have hM := I.2.2.2.1
  unfold RC at hR
  unfold SD at hS
  unfold DR at hD
  unfold RM at hM
  obtain ⟨n, hn, hn1, hn2⟩ := sh
  have ai := aIn_i hn hn1 (by omega)
  have hdd : 22 < d ∧ d < 46 := by rcases I.1 with rfl | rfl <;> decide
  intro N
  induction N with
  | zero => intro v s h' h1 h2 h3 h4 h5 h6; omega
  | succ N ih =>
    intro v s h' h1 h2 h3 h4 h5 h6
    rw [F_X6_fitting_L11]
    simp only [ai, ck_t, nm_x, cl_i (show at_ < 2 ^ 31 by omega), pI_2, h1, hR, gO_s, hS, nI_1]
    by_cases e : v = hi + 1
    · subst e
      rw [if_pos (show nI hi < nI (hi + 1) by rw [Int32.lt_iff_toInt_lt, nI_toInt (by omega), nI_toInt (by omega)]; omega), Nat.sub_self]
      refine ⟨_, rfl, h1, fun r hr => ?_⟩
      by_cases e2 : r = d + q
      · subst e2
        funext j
        rw [pI_1]
        by_cases e3 : j = at_
        · rw [if_pos ⟨rfl, e3⟩, e3]
        · rw [if_neg (fun z => e3 z.2), h3 j e3]
      · rw [← h2 r hr e2]
        funext j
        rw [pI_1, if_neg (fun z => e2 z.1)]
    · rw [if_neg (show ¬ nI hi < nI v by rw [Int32.lt_iff_toInt_lt, nI_toInt (by omega), nI_toInt (by omega)]; omega), show hi + 1 - v = (hi + 1 - (v + 1)) + 1 by omega, ftL]
      have hb : ∀ r, r ≠ d + 21 → (pI h' (d + q) at_ (nI v)).1 r = (pI h (d + q) at_ (nI v)).1 r := by
        intro r hr
        funext j
        rw [pI_1, pI_1]
        by_cases e2 : r = d + q ∧ j = at_
        · rw [if_pos e2, if_pos e2]
        · rw [if_neg e2, if_neg e2]
          by_cases e3 : r = d + q
          · subst e3
            exact h3 j (fun z => e2 ⟨rfl, z⟩)
          · rw [h2 r hr e3]
      have I2 := (I.alter (j := at_) (hq v h4 (by omega))).scr (h' := pI h' (d + q) at_ (nI v)) h1 hb
      have hso := soX_c (h := pI h (d + q) at_ (nI v)) (h' := pI h' (d + q) at_ (nI v)) (d := d) (T := T) (R := R) (K := K) (fun r hr => hb (d + r) (by omega)) (fun r hr => by
        obtain ⟨⟨x, hx, ex⟩, -⟩ := (I.alter (j := at_) (hq v h4 (by omega))).reading hr
        have := I.K.2.2
        exact ⟨x, by omega, ex⟩)
      rw [so_x I2, bnd_s, hso]
      have c2 : ∀ r, r ≠ d + 21 → r ≠ d + q → (pHT (pI h' (d + q) at_ (nI v)) d T K).1 r = h.1 r := by
        intro r hr hr2
        rw [pHT_off hr, ← h2 r hr hr2]
        funext j
        rw [pI_1, if_neg (fun z => hr2 z.1)]
      have c3 : ∀ j, j ≠ at_ → (pHT (pI h' (d + q) at_ (nI v)) d T K).1 (d + q) j = h.1 (d + q) j := by
        intro j hj
        rw [pHT_off (by omega), pI_1, if_neg (fun z => hj z.2), h3 j hj]
      split
      · exact ih (v + 1) _ (pHT (pI h' (d + q) at_ (nI v)) d T K) h1 c2 c3 (by omega) (by omega) (by omega)
      · exact ih (v + 1) _ (pHT (pI h' (d + q) at_ (nI v)) d T K) h1 c2 c3 (by omega) (by omega) (by omega)
theorem fit_x {h k : Hp} {d w C K T M R : Nat} (I : In0 h k d w C K T M R) {q m at_ lo hi : Nat} (hat : at_ < 8) (sh : ∃ n, shC[d + q]? = some (1, n) ∧ at_ < n ∧ n < 100) (hhi : hi < 100) (hlo : lo ≤ hi + 1) (hq : ∀ v, lo ≤ v → v ≤ hi → adm q m C (nI v)) (q8 : 0 < q ∧ q < 8) :
    ∃ h'', F_X6_fitting 0 (d + q) (nI at_) (nI lo) (nI hi) h = some (ftL (fun x => soX (pI h (d + q) at_ (nI x)) d T R) (hi + 1 - lo) lo 0, h'') ∧ In0 h'' k d w C K T M R := by
  obtain ⟨h'', e1, e2, e3⟩ := fit_L I hat sh hhi hq q8 FU lo 0 h rfl (fun r _ _ => rfl) (fun j _ => rfl) (Nat.le_refl _) hlo (by unfold FU; omega)
  obtain ⟨n, hn, hn1, hn2⟩ := sh
  refine ⟨h'', ?_, I.scr e2 e3⟩
  unfold F_X6_fitting
  rw [aIn_i hn hn1 (by omega), ck_t, nm_x, cl_i (show at_ < 2 ^ 31 by omega)]
  exact e1
theorem or_0 (x : Int32) : x ||| 0 = x := by
  apply Int32.toBitVec_inj.mp
  rw [Int32.toBitVec_or]
  exact BitVec.or_zero
theorem louds_M {h k : Hp} {d w C K T M R : Nat} (I : In0 h k d w C K T M R) {at_ : Nat} (hat : at_ < T) (hq : ∀ v, 1 ≤ v → v ≤ 9 → adm 6 9 C (nI v)) : ∀ (N v : Nat) (s : Int32) (k' : Hp), k'.2 = k.2 → (∀ x, pI k' 9 at_ x = pI k 9 at_ x) → 1 ≤ v → v ≤ 9 + 1 → 9 + 2 ≤ v + N →
    F_X7_louds_L22 0 (nI at_) (k.1 9 at_) N s (nI v) k' = some (ftL (fun x => soX (pI h (d + 6) at_ (nI x)) d T R) (9 + 1 - v) v s, k) := by
  have hM := I.2.2.2.1
  unfold RM at hM
  have h8 := I.T.2.2
  have ai := aIn_i (sh := shM) (q := 9) (n := 8) (by decide +kernel) (show at_ < 8 by omega) (by decide)
  skip
  intro N
  induction N with
  | zero => intro v s k' h1 h2 h3 h4 h5; omega
  | succ N ih =>
    intro v s k' h1 h2 h3 h4 h5
    rw [F_X7_louds_L22]
    simp only [h1, hM, ob_s, ai, ck_t, nm_x, cl_i (show at_ < 2 ^ 31 by omega), h2, nI_1]
    by_cases e : v = 9 + 1
    · subst e
      rw [if_pos (show (9 : Int32) < nI (9 + 1) by decide), Nat.sub_self, pI_same rfl]
      rfl
    · rw [if_neg (show ¬ (9 : Int32) < nI v by rw [show (9 : Int32) = nI 9 from rfl, Int32.lt_iff_toInt_lt, nI_toInt (by omega), nI_toInt (by omega)]; omega), show 9 + 1 - v = (9 + 1 - (v + 1)) + 1 by omega, ftL]
      rw [so_mx (I.alter (hq v h3 (by omega))), bnd_s]
      split
      · rw [or_0]
        exact ih (v + 1) _ (pI k 9 at_ (nI v)) rfl (fun x => pI_pI) (by omega) (by omega) (by omega)
      · exact ih (v + 1) _ (pI k 9 at_ (nI v)) rfl (fun x => pI_pI) (by omega) (by omega) (by omega)
theorem st_louds : ∀ a : Int32, SP Inv (fun h => F_X6_louds 0 a h) (fun k => F_X7_louds 0 a k) := by
  rintro a h k ⟨d, w, C, K, T, M, R, I⟩
  have hS := SD_of I.1
  have hR := I.2.2.1
  have hD := hR.dr I.1
  have hM := I.2.2.2.1
  unfold RC at hR
  unfold SD at hS
  unfold DR at hD
  unfold RM at hM
  dsimp only
  unfold F_X6_louds F_X7_louds
  rcases talk_q I a with ⟨e1, e2⟩ | ⟨i, hi, rfl, e1, e2⟩
  · rw [e1, e2]
    exact ⟨-1, h, k, rfl, rfl, d, w, C, K, T, M, R, I⟩
  · have h8 := I.T.2.2
    have ai := aIn_i (sh := shM) (q := 9) (n := 8) (by decide +kernel) (show i < 8 by omega) (by decide)
    have hq : ∀ v, 1 ≤ v → v ≤ 9 → adm 6 9 C (nI v) := fun v v1 v2 => Or.inr (Or.inr (Or.inl ⟨rfl, rfl, v, by omega, by omega, rfl⟩))
    obtain ⟨h'', e3, I2⟩ := fit_x I (q := 6) (m := 9) (at_ := i) (lo := 1) (hi := 9) (by omega) ⟨8, by simp only [hS], by omega, by decide⟩ (by omega) (by omega) hq (by decide)
    have e4 := louds_M I hi hq FU 1 0 k rfl (fun x => rfl) (by decide) (by omega) (by unfold FU; omega)
    rw [e1, e2]
    simp only [bnd_s, if_neg (show ¬ (1 : Int32) = 0 by decide), hR, hD, hM, gO_s, hS, ck_t, ob_s, ai, nm_x, cl_i (show i < 2 ^ 31 by omega)]
    refine ⟨_, h'', k, ?_, e4, d, w, C, K, T, M, R, I2⟩
    exact (congrArg (fun z => bnd z fun r6 h5 => some (r6, h5)) e3)
theorem words_M {h k : Hp} {d w C K T M R : Nat} (I : In0 h k d w C K T M R) {at_ : Nat} (hat : at_ < T) (hq : ∀ v, 0 ≤ v → v ≤ 7 → adm 7 10 C (nI v)) : ∀ (N v : Nat) (s : Int32) (k' : Hp), k'.2 = k.2 → (∀ x, pI k' 10 at_ x = pI k 10 at_ x) → 0 ≤ v → v ≤ 7 + 1 → 7 + 2 ≤ v + N →
    F_X7_words_L22 0 (nI at_) (k.1 10 at_) N s (nI v) k' = some (ftL (fun x => soX (pI h (d + 7) at_ (nI x)) d T R) (7 + 1 - v) v s, k) := by
  have hM := I.2.2.2.1
  unfold RM at hM
  have h8 := I.T.2.2
  have ai := aIn_i (sh := shM) (q := 10) (n := 8) (by decide +kernel) (show at_ < 8 by omega) (by decide)
  skip
  intro N
  induction N with
  | zero => intro v s k' h1 h2 h3 h4 h5; omega
  | succ N ih =>
    intro v s k' h1 h2 h3 h4 h5
    rw [F_X7_words_L22]
    simp only [h1, hM, ob_s, ai, ck_t, nm_x, cl_i (show at_ < 2 ^ 31 by omega), h2, nI_1]
    by_cases e : v = 7 + 1
    · subst e
      rw [if_pos (show (8 : Int32) ≤ nI (7 + 1) by decide), Nat.sub_self, pI_same rfl]
      rfl
    · rw [if_neg (show ¬ (8 : Int32) ≤ nI v from nI_ge (a := v) (b := 8) (show v < 8 by omega) (by omega)), show 7 + 1 - v = (7 + 1 - (v + 1)) + 1 by omega, ftL]
      rw [so_mx (I.alter (hq v h3 (by omega))), bnd_s]
      split
      · rw [or_0]
        exact ih (v + 1) _ (pI k 10 at_ (nI v)) rfl (fun x => pI_pI) (by omega) (by omega) (by omega)
      · exact ih (v + 1) _ (pI k 10 at_ (nI v)) rfl (fun x => pI_pI) (by omega) (by omega) (by omega)
theorem st_words : ∀ a : Int32, SP Inv (fun h => F_X6_words 0 a h) (fun k => F_X7_words 0 a k) := by
  rintro a h k ⟨d, w, C, K, T, M, R, I⟩
  have hS := SD_of I.1
  have hR := I.2.2.1
  have hD := hR.dr I.1
  have hM := I.2.2.2.1
  unfold RC at hR
  unfold SD at hS
  unfold DR at hD
  unfold RM at hM
  dsimp only
  unfold F_X6_words F_X7_words
  rcases talk_q I a with ⟨e1, e2⟩ | ⟨i, hi, rfl, e1, e2⟩
  · rw [e1, e2]
    exact ⟨-1, h, k, rfl, rfl, d, w, C, K, T, M, R, I⟩
  · have h8 := I.T.2.2
    have ai := aIn_i (sh := shM) (q := 10) (n := 8) (by decide +kernel) (show i < 8 by omega) (by decide)
    have hq : ∀ v, 0 ≤ v → v ≤ 7 → adm 7 10 C (nI v) := fun v v1 v2 => Or.inr (Or.inr (Or.inr ⟨rfl, rfl, v, by omega, rfl⟩))
    obtain ⟨h'', e3, I2⟩ := fit_x I (q := 7) (m := 10) (at_ := i) (lo := 0) (hi := 7) (by omega) ⟨8, by simp only [hS], by omega, by decide⟩ (by omega) (by omega) hq (by decide)
    have e4 := words_M I hi hq FU 0 0 k rfl (fun x => rfl) (by decide) (by omega) (by unfold FU; omega)
    rw [e1, e2]
    simp only [bnd_s, if_neg (show ¬ (1 : Int32) = 0 by decide), hR, hD, hM, gO_s, hS, ck_t, ob_s, ai, nm_x, cl_i (show i < 2 ^ 31 by omega)]
    refine ⟨_, h'', k, ?_, e4, d, w, C, K, T, M, R, I2⟩
    exact (congrArg (fun z => bnd z fun r6 h5 => some (r6, h5)) e3)
theorem kinds_M {h k : Hp} {d w C K T M R : Nat} (I : In0 h k d w C K T M R) {at_ : Nat} (hat : at_ < K) (hq : ∀ v, 0 ≤ v → v ≤ 2 → adm 1 4 C (nI v)) : ∀ (N v : Nat) (s : Int32) (k' : Hp), k'.2 = k.2 → (∀ x, pI k' 4 at_ x = pI k 4 at_ x) → 0 ≤ v → v ≤ 2 + 1 → 2 + 2 ≤ v + N →
    F_X7_kinds_L22 0 (nI at_) (k.1 4 at_) N s (nI v) k' = some (ftL (fun x => soX (pI h (d + 1) at_ (nI x)) d T R) (2 + 1 - v) v s, k) := by
  have hM := I.2.2.2.1
  unfold RM at hM
  have h8 := I.K.2.2
  have ai := aIn_i (sh := shM) (q := 4) (n := 4) (by decide +kernel) (show at_ < 4 by omega) (by decide)
  skip
  intro N
  induction N with
  | zero => intro v s k' h1 h2 h3 h4 h5; omega
  | succ N ih =>
    intro v s k' h1 h2 h3 h4 h5
    rw [F_X7_kinds_L22]
    simp only [h1, hM, ob_s, ai, ck_t, nm_x, cl_i (show at_ < 2 ^ 31 by omega), h2, nI_1]
    by_cases e : v = 2 + 1
    · subst e
      rw [if_pos (show (3 : Int32) ≤ nI (2 + 1) by decide), Nat.sub_self, pI_same rfl]
      rfl
    · rw [if_neg (show ¬ (3 : Int32) ≤ nI v from nI_ge (a := v) (b := 3) (show v < 3 by omega) (by omega)), show 2 + 1 - v = (2 + 1 - (v + 1)) + 1 by omega, ftL]
      rw [so_mx (I.alter (hq v h3 (by omega))), bnd_s]
      split
      · rw [or_0]
        exact ih (v + 1) _ (pI k 4 at_ (nI v)) rfl (fun x => pI_pI) (by omega) (by omega) (by omega)
      · exact ih (v + 1) _ (pI k 4 at_ (nI v)) rfl (fun x => pI_pI) (by omega) (by omega) (by omega)
theorem st_kinds : ∀ a : Int32, SP Inv (fun h => F_X6_kinds 0 a h) (fun k => F_X7_kinds 0 a k) := by
  rintro a h k ⟨d, w, C, K, T, M, R, I⟩
  have hS := SD_of I.1
  have hR := I.2.2.1
  have hD := hR.dr I.1
  have hM := I.2.2.2.1
  unfold RC at hR
  unfold SD at hS
  unfold DR at hD
  unfold RM at hM
  dsimp only
  unfold F_X6_kinds F_X7_kinds
  rcases cheese_q I a with ⟨e1, e2⟩ | ⟨i, hi, rfl, e1, e2⟩
  · rw [e1, e2]
    exact ⟨-1, h, k, rfl, rfl, d, w, C, K, T, M, R, I⟩
  · have h8 := I.K.2.2
    have ai := aIn_i (sh := shM) (q := 4) (n := 4) (by decide +kernel) (show i < 4 by omega) (by decide)
    have hq : ∀ v, 0 ≤ v → v ≤ 2 → adm 1 4 C (nI v) := fun v v1 v2 => Or.inl ⟨rfl, rfl, v, by omega, rfl⟩
    obtain ⟨h'', e3, I2⟩ := fit_x I (q := 1) (m := 4) (at_ := i) (lo := 0) (hi := 2) (by omega) ⟨4, by simp only [hS], by omega, by decide⟩ (by omega) (by omega) hq (by decide)
    have e4 := kinds_M I hi hq FU 0 0 k rfl (fun x => rfl) (by decide) (by omega) (by unfold FU; omega)
    rw [e1, e2]
    simp only [bnd_s, if_neg (show ¬ (1 : Int32) = 0 by decide), hR, hD, hM, gO_s, hS, ck_t, ob_s, ai, nm_x, cl_i (show i < 2 ^ 31 by omega)]
    refine ⟨_, h'', k, ?_, e4, d, w, C, K, T, M, R, I2⟩
    exact (congrArg (fun z => bnd z fun r6 h5 => some (r6, h5)) e3)
theorem lay_M {h k : Hp} {d w C K T M R : Nat} (I : In0 h k d w C K T M R) {H : Nat} (hC : C = H + 1) {at_ : Nat} (hat : at_ < K) (hq : ∀ v, 0 ≤ v → v ≤ H → adm 2 5 C (nI v)) : ∀ (N v : Nat) (s : Int32) (k' : Hp), (k'.1 0 5 = nI C) → k'.2 = k.2 → (∀ x, pI k' 5 at_ x = pI k 5 at_ x) → 0 ≤ v → v ≤ H + 1 → H + 2 ≤ v + N →
    F_X7_lay_L22 0 (nI at_) (k.1 5 at_) N s (nI v) k' = some (ftL (fun x => soX (pI h (d + 2) at_ (nI x)) d T R) (H + 1 - v) v s, k) := by
  have hM := I.2.2.2.1
  unfold RM at hM
  have h8 := I.K.2.2
  have ai := aIn_i (sh := shM) (q := 5) (n := 4) (by decide +kernel) (show at_ < 4 by omega) (by decide)
  have hC5 := I.C.2.2
  intro N
  induction N with
  | zero => intro v s k' h0 h1 h2 h3 h4 h5; omega
  | succ N ih =>
    intro v s k' h0 h1 h2 h3 h4 h5
    rw [F_X7_lay_L22, h0, hC]
    simp only [h1, hM, ob_s, ai, ck_t, nm_x, cl_i (show at_ < 2 ^ 31 by omega), h2, nI_1]
    by_cases e : v = H + 1
    · subst e
      rw [if_pos (Int32.le_refl (nI (H + 1))), Nat.sub_self, pI_same rfl]
      rfl
    · rw [if_neg (nI_ge (show v < H + 1 by omega) (by omega)), show H + 1 - v = (H + 1 - (v + 1)) + 1 by omega, ftL]
      rw [so_mx (I.alter (hq v h3 (by omega))), bnd_s]
      split
      · rw [or_0]
        exact ih (v + 1) _ (pI k 5 at_ (nI v)) (by rw [pI_1, if_neg (by omega)]; exact I.C.2.1) rfl (fun x => pI_pI) (by omega) (by omega) (by omega)
      · exact ih (v + 1) _ (pI k 5 at_ (nI v)) (by rw [pI_1, if_neg (by omega)]; exact I.C.2.1) rfl (fun x => pI_pI) (by omega) (by omega) (by omega)
theorem st_lay : ∀ a : Int32, SP Inv (fun h => F_X6_lay 0 a h) (fun k => F_X7_lay 0 a k) := by
  rintro a h k ⟨d, w, C, K, T, M, R, I⟩
  have hS := SD_of I.1
  have hR := I.2.2.1
  have hD := hR.dr I.1
  have hM := I.2.2.2.1
  unfold RC at hR
  unfold SD at hS
  unfold DR at hD
  unfold RM at hM
  dsimp only
  unfold F_X6_lay F_X7_lay
  rcases cheese_q I a with ⟨e1, e2⟩ | ⟨i, hi, rfl, e1, e2⟩
  · rw [e1, e2]
    exact ⟨-1, h, k, rfl, rfl, d, w, C, K, T, M, R, I⟩
  · have h8 := I.K.2.2
    have ai := aIn_i (sh := shM) (q := 5) (n := 4) (by decide +kernel) (show i < 4 by omega) (by decide)
    obtain ⟨c1, -, c3⟩ := I.C
    have hC : ∃ H, C = H + 1 := by
      obtain ⟨-, ⟨x, hx, -⟩, -⟩ := I.cheese hi
      exact ⟨C - 1, by omega⟩
    obtain ⟨H, rfl⟩ := hC
    have hq : ∀ v, 0 ≤ v → v ≤ H → adm 2 5 (H + 1) (nI v) := fun v v1 v2 => Or.inr (Or.inl ⟨rfl, rfl, v, by omega, rfl⟩)
    obtain ⟨h'', e3, I2⟩ := fit_x I (q := 2) (m := 5) (at_ := i) (lo := 0) (hi := H) (by omega) ⟨4, by simp only [hS], by omega, by decide⟩ (by omega) (by omega) hq (by decide)
    have e4 := lay_M I rfl hi hq FU 0 0 k I.C.2.1 rfl (fun x => rfl) (by decide) (by omega) (by unfold FU; omega)
    rw [e1, e2]
    simp only [bnd_s, if_neg (show ¬ (1 : Int32) = 0 by decide), hR, hD, hM, gO_s, hS, ck_t, ob_s, ai, nm_x, cl_i (show i < 2 ^ 31 by omega), c1, pm_s]
    refine ⟨_, h'', k, ?_, e4, d, w, H + 1, K, T, M, R, I2⟩
    exact (congrArg (fun z => bnd z fun r6 h5 => some (r6, h5)) e3)
