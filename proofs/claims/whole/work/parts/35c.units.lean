theorem n2q (a : Nat) : nI a + 2 = nI (a + 2) := n2 a
theorem talk_unit {h k g m : Hp} {e Q p b n C K T : Nat} (X : Tx h k e Q p b n) (D : DS h k g m e C K (T + 1) K T (b + (2 + 4 * (K + T) + 1))) (J : JT g m e C T) (hK : K ≤ 4) (hT : T < 8) (hC : 0 < C ∧ C ≤ 5) (hj : 2 + 4 * (K + T) + 1 ≤ n) (JK : JC g m e C K) :
    BF h k e b (CL e Q p n (2 + 4 * (K + T) + 1) g) (F_X7_readOneTalk 0 (nI (b + n)) m) ∨ ∃ g' m', CL e Q p n (2 + 4 * (K + T) + 1) g = CL e Q p n (2 + 4 * (K + (T + 1))) g' ∧ F_X7_readOneTalk 0 (nI (b + n)) m = some (1, m') ∧ DS h k g' m' e C K (T + 1) K (T + 1) (b + (2 + 4 * (K + (T + 1)))) ∧ JT g' m' e C (T + 1) ∧ JC g' m' e C K ∧ 2 + 4 * (K + (T + 1)) ≤ n := by
  have X' := X
  obtain ⟨xD, xS, xM, x4, x5, x6, x7, x8⟩ := X
  have hM : RM m := RM_c D.2.1.1 xM
  have r25 : m.2 0 25 = some 15 := by unfold RM at hM; simp only [hM]
  have a0 := aIn_i (sh := shM) (q := 15) (n := 24) (by decide +kernel) (show 3 * T < 24 by omega) (by decide)
  have a1 := aIn_i (sh := shM) (q := 15) (n := 24) (by decide +kernel) (show 3 * T + 1 < 24 by omega) (by decide)
  have a2 := aIn_i (sh := shM) (q := 15) (n := 24) (by decide +kernel) (show 3 * T + 2 < 24 by omega) (by decide)
  have e3 : (3 : Int32) * nI T = nI (3 * T) := by rw [show (3 : Int32) = nI 3 from rfl, pk_mul]
  obtain ⟨H, rfl⟩ : ∃ H, C = H + 1 := ⟨C - 1, by omega⟩
  unfold F_X7_readOneTalk
  rw [D.2.2.2.2.2.1, nm_x, e3, r25, ob_s, D.2.2.2.1, digit_x hM D.2.2.2.2.2.2 (by omega) (by omega)]
  by_cases e0 : 2 + 4 * (K + T) + 1 = n
  · left
    rw [if_neg (fun q => absurd q.1 (by omega)), bnd_s]
    have q2 : ∀ v, (pI m 15 (3 * T) v).2 = m.2 := fun v => rfl
    have v15 : (pI m 15 (3 * T) (-9)).1 15 (3 * T) = -9 := by rw [pI_1, if_pos ⟨rfl, rfl⟩]
    simp only [a0, ck_t, nm_x, cl_i (show 3 * T < 2 ^ 31 by omega), q2, r25, ob_s, v15]
    rw [if_pos trivial, e0, CL_end (by omega), kT_n (by omega) (by omega) (by omega)]
    have Df := (D.m (q := 15) (i := 3 * T) (v := -9) (Or.inr rfl))
    exact ⟨n, g, _, rfl, rfl, by rw [Df.2.2.2.2.2.2, e0], Df.1, Df.2.1, by omega⟩
  · have hj0 : 2 + 4 * (K + T) + 1 < n := by omega
    have hz := X'.cell D hj0
    have hgo := tg_1 (RC_dr D.1.1 xD) xS hK hT D.2.2.1.1 D.2.2.1.2.2.1 (rfl : 2 + 4 * (K + T) + 1 = 2 + 4 * (K + T) + 1) (g.1 Q (p + (2 + 4 * (K + T) + 1)))
    rw [CL_go X' hj0 hgo, hz]
    clear hz hgo
    generalize g.1 Q (p + (2 + 4 * (K + T) + 1)) = z0
    by_cases c0 : dgV z0 0 (nI (H + 1) - 1) = 0
    · left
      rw [if_pos c0, if_neg (show ¬ (b + (2 + 4 * (K + T) + 1) < b + n ∧ ¬ dgV z0 0 (nI (H + 1) - 1) = 0) from fun q => q.2 c0), bnd_s]
      have q2 : ∀ v, (pI m 15 (3 * T) v).2 = m.2 := fun v => rfl
      have v15 : (pI m 15 (3 * T) (-9)).1 15 (3 * T) = -9 := by rw [pI_1, if_pos ⟨rfl, rfl⟩]
      simp only [a0, ck_t, nm_x, cl_i (show 3 * T < 2 ^ 31 by omega), q2, r25, ob_s, v15]
      rw [if_pos trivial]
      have Df := (D.m (q := 15) (i := 3 * T) (v := -9) (Or.inr rfl)).g (r := 5) (i := T) (v := z0 - 48) (by decide)
      exact ⟨2 + 4 * (K + T) + 1, _, _, rfl, rfl, Df.2.2.2.2.2.2, Df.1, Df.2.1, by omega⟩
    · rw [if_neg c0, if_pos (show b + (2 + 4 * (K + T) + 1) < b + n ∧ ¬ dgV z0 0 (nI (H + 1) - 1) = 0 from ⟨by omega, c0⟩), bnd_s]
      rw [pm_s] at c0
      obtain ⟨y0, hl0, hy0, ey0⟩ := dg_in (lo := 0) (hi := H) (by omega) (by decide) c0
      have q2 : ∀ v, (pI (pI m 0 20 (nI (b + (2 + 4 * (K + T) + 1) + 1))) 15 (3 * T) v).2 = m.2 := fun v => rfl
      have v15 : (pI (pI m 0 20 (nI (b + (2 + 4 * (K + T) + 1) + 1))) 15 (3 * T) (z0 - 48)).1 15 (3 * T) = z0 - 48 := by rw [pI_1, if_pos ⟨rfl, rfl⟩]
      simp only [a0, ck_t, nm_x, cl_i (show 3 * T < 2 ^ 31 by omega), q2, r25, ob_s, v15]
      rw [if_neg (by rw [ey0]; exact nIne9 (by omega))]
      have D1 := ((D.at_ (b + (2 + 4 * (K + T) + 1) + 1)).m (q := 15) (i := 3 * T) (v := z0 - 48) (Or.inr rfl)).g (r := 5) (i := T) (v := z0 - 48) (by decide)
      have J1 : JT (pI g (e + 5) T (z0 - 48)) (pI (pI m 0 20 (nI (b + (2 + 4 * (K + T) + 1) + 1))) 15 (3 * T) (z0 - 48)) e (H + 1) T := J.c (fun r _ _ i hi => by rw [pI_1, if_neg (fun z => absurd z.2 (by omega))]) (fun j hj => by rw [pI_1, if_neg (fun z => absurd z.2 (by omega)), pI_1, if_neg (fun z => absurd z.1 (by decide))])
      have JK1 : JC (pI g (e + 5) T (z0 - 48)) (pI (pI m 0 20 (nI (b + (2 + 4 * (K + T) + 1) + 1))) 15 (3 * T) (z0 - 48)) e (H + 1) K := JK.c (fun r _ _ i hi => by rw [pI_1, if_neg (fun z => absurd z.1 (by omega))]) (fun j hj => by rw [pI_1, if_neg (fun z => absurd z.1 (by decide)), pI_1, if_neg (fun z => absurd z.1 (by decide))])
      have w00 : (pI g (e + 5) T (z0 - 48)).1 (e + 5) T = z0 - 48 := by rw [pI_1, if_pos ⟨rfl, rfl⟩]
      have u00 : (pI (pI m 0 20 (nI (b + (2 + 4 * (K + T) + 1) + 1))) 15 (3 * T) (z0 - 48)).1 15 (3 * T) = z0 - 48 := v15
      have m1 : (pI (pI m 0 20 (nI (b + (2 + 4 * (K + T) + 1) + 1))) 15 (3 * T) (z0 - 48)).2 = m.2 := rfl
      clear v15 q2
      rw [show b + (2 + 4 * (K + T) + 1) + 1 = b + (2 + 4 * (K + T) + 2) by omega] at D1
      rw [show 2 + 4 * (K + T) + 1 + 1 = 2 + 4 * (K + T) + 2 by omega]
      generalize pI g (e + 5) T (z0 - 48) = g1 at D1 J1 JK1 w00 ⊢
      generalize pI (pI m 0 20 (nI (b + (2 + 4 * (K + T) + 1) + 1))) 15 (3 * T) (z0 - 48) = n1 at D1 J1 JK1 u00 m1 ⊢
      have hM1 : RM n1 := RM_c m1 hM
      rw [digit_x hM1 D1.2.2.2.2.2.2 (by omega) (by omega)]
      by_cases e1 : 2 + 4 * (K + T) + 2 = n
      · left
        rw [if_neg (fun q => absurd q.1 (by omega)), bnd_s]
        have q2 : ∀ v, (pI n1 15 (3 * T + 1) v).2 = m.2 := fun v => m1
        have v15 : (pI n1 15 (3 * T + 1) (-9)).1 15 (3 * T + 1) = -9 := by rw [pI_1, if_pos ⟨rfl, rfl⟩]
        simp only [nI_1, n2q, a1, ck_t, nm_x, cl_i (show 3 * T + 1 < 2 ^ 31 by omega), q2, r25, ob_s, v15]
        rw [if_pos trivial, e1, CL_end (by omega), kT_n (by omega) (by omega) (by omega)]
        have Df := (D1.m (q := 15) (i := 3 * T + 1) (v := -9) (Or.inr rfl))
        exact ⟨n, g1, _, rfl, rfl, by rw [Df.2.2.2.2.2.2, e1], Df.1, Df.2.1, by omega⟩
      · have hj1 : 2 + 4 * (K + T) + 2 < n := by omega
        have hz := X'.cell D1 hj1
        have hgo := tg_2 (RC_dr D1.1.1 xD) xS hK hT D1.2.2.1.2.2.1 (rfl : 2 + 4 * (K + T) + 2 = 2 + 4 * (K + T) + 2) (g1.1 Q (p + (2 + 4 * (K + T) + 2)))
        rw [CL_go X' hj1 hgo, hz]
        clear hz hgo
        generalize g1.1 Q (p + (2 + 4 * (K + T) + 2)) = z1
        by_cases c1 : dgV z1 1 9 = 0
        · left
          rw [if_pos c1, if_neg (show ¬ (b + (2 + 4 * (K + T) + 2) < b + n ∧ ¬ dgV z1 1 9 = 0) from fun q => q.2 c1), bnd_s]
          have q2 : ∀ v, (pI n1 15 (3 * T + 1) v).2 = m.2 := fun v => m1
          have v15 : (pI n1 15 (3 * T + 1) (-9)).1 15 (3 * T + 1) = -9 := by rw [pI_1, if_pos ⟨rfl, rfl⟩]
          simp only [nI_1, n2q, a1, ck_t, nm_x, cl_i (show 3 * T + 1 < 2 ^ 31 by omega), q2, r25, ob_s, v15]
          rw [if_pos trivial]
          have Df := (D1.m (q := 15) (i := 3 * T + 1) (v := -9) (Or.inr rfl)).g (r := 6) (i := T) (v := z1 - 48) (by decide)
          exact ⟨2 + 4 * (K + T) + 2, _, _, rfl, rfl, Df.2.2.2.2.2.2, Df.1, Df.2.1, by omega⟩
        · rw [if_neg c1, if_pos (show b + (2 + 4 * (K + T) + 2) < b + n ∧ ¬ dgV z1 1 9 = 0 from ⟨by omega, c1⟩), bnd_s]
          obtain ⟨y1, hl1, hy1, ey1⟩ := dg_in (lo := 1) (hi := 9) (by omega) (by decide) c1
          have q2 : ∀ v, (pI (pI n1 0 20 (nI (b + (2 + 4 * (K + T) + 2) + 1))) 15 (3 * T + 1) v).2 = m.2 := fun v => m1
          have v15 : (pI (pI n1 0 20 (nI (b + (2 + 4 * (K + T) + 2) + 1))) 15 (3 * T + 1) (z1 - 48)).1 15 (3 * T + 1) = z1 - 48 := by rw [pI_1, if_pos ⟨rfl, rfl⟩]
          simp only [nI_1, n2q, a1, ck_t, nm_x, cl_i (show 3 * T + 1 < 2 ^ 31 by omega), q2, r25, ob_s, v15]
          rw [if_neg (by rw [ey1]; exact nIne9 (by omega))]
          have D2 := ((D1.at_ (b + (2 + 4 * (K + T) + 2) + 1)).m (q := 15) (i := 3 * T + 1) (v := z1 - 48) (Or.inr rfl)).g (r := 6) (i := T) (v := z1 - 48) (by decide)
          have J2 : JT (pI g1 (e + 6) T (z1 - 48)) (pI (pI n1 0 20 (nI (b + (2 + 4 * (K + T) + 2) + 1))) 15 (3 * T + 1) (z1 - 48)) e (H + 1) T := J1.c (fun r _ _ i hi => by rw [pI_1, if_neg (fun z => absurd z.2 (by omega))]) (fun j hj => by rw [pI_1, if_neg (fun z => absurd z.2 (by omega)), pI_1, if_neg (fun z => absurd z.1 (by decide))])
          have JK2 : JC (pI g1 (e + 6) T (z1 - 48)) (pI (pI n1 0 20 (nI (b + (2 + 4 * (K + T) + 2) + 1))) 15 (3 * T + 1) (z1 - 48)) e (H + 1) K := JK1.c (fun r _ _ i hi => by rw [pI_1, if_neg (fun z => absurd z.1 (by omega))]) (fun j hj => by rw [pI_1, if_neg (fun z => absurd z.1 (by decide)), pI_1, if_neg (fun z => absurd z.1 (by decide))])
          have w10 : (pI g1 (e + 6) T (z1 - 48)).1 (e + 5) T = z0 - 48 := by rw [pI_1, if_neg (fun z => absurd z.1 (by omega)), w00]
          have u10 : (pI (pI n1 0 20 (nI (b + (2 + 4 * (K + T) + 2) + 1))) 15 (3 * T + 1) (z1 - 48)).1 15 (3 * T) = z0 - 48 := by rw [pI_1, if_neg (fun z => absurd z.2 (by omega)), pI_1, if_neg (fun z => absurd z.1 (by decide)), u00]
          have w11 : (pI g1 (e + 6) T (z1 - 48)).1 (e + 6) T = z1 - 48 := by rw [pI_1, if_pos ⟨rfl, rfl⟩]
          have u11 : (pI (pI n1 0 20 (nI (b + (2 + 4 * (K + T) + 2) + 1))) 15 (3 * T + 1) (z1 - 48)).1 15 (3 * T + 1) = z1 - 48 := v15
          have m2 : (pI (pI n1 0 20 (nI (b + (2 + 4 * (K + T) + 2) + 1))) 15 (3 * T + 1) (z1 - 48)).2 = m.2 := m1
          clear v15 q2
          rw [show b + (2 + 4 * (K + T) + 2) + 1 = b + (2 + 4 * (K + T) + 3) by omega] at D2
          rw [show 2 + 4 * (K + T) + 2 + 1 = 2 + 4 * (K + T) + 3 by omega]
          generalize pI g1 (e + 6) T (z1 - 48) = g2 at D2 J2 JK2 w10 w11 ⊢
          generalize pI (pI n1 0 20 (nI (b + (2 + 4 * (K + T) + 2) + 1))) 15 (3 * T + 1) (z1 - 48) = n2 at D2 J2 JK2 u10 u11 m2 ⊢
          have hM2 : RM n2 := RM_c m2 hM
          rw [digit_x hM2 D2.2.2.2.2.2.2 (by omega) (by omega)]
          by_cases e2 : 2 + 4 * (K + T) + 3 = n
          · left
            rw [if_neg (fun q => absurd q.1 (by omega)), bnd_s]
            have q2 : ∀ v x, (pI (pI n2 15 (3 * T + 2) v) 0 23 x).2 = m.2 := fun v x => m2
            have v15 : ∀ x, (pI (pI n2 15 (3 * T + 2) (-9)) 0 23 x).1 15 (3 * T + 2) = -9 := fun x => by rw [pI_1, if_neg (fun z => absurd z.1 (by decide)), pI_1, if_pos ⟨rfl, rfl⟩]
            have v23 : (pI n2 15 (3 * T + 2) (-9)).1 0 23 = nI T := by rw [pI_1, if_neg (fun z => absurd z.1 (by decide))]; exact D2.2.2.2.2.2.1
            simp only [nI_1, n2q, a2, ck_t, nm_x, cl_i (show 3 * T + 2 < 2 ^ 31 by omega), q2, r25, ob_s, v15]
            rw [if_pos trivial, e2, CL_end (by omega), kT_n (by omega) (by omega) (by omega), v23, nI_1]
            have Df := ((D2.m (q := 15) (i := 3 * T + 2) (v := -9) (Or.inr rfl)).tm (T + 1))
            exact ⟨n, g2, _, rfl, rfl, by rw [Df.2.2.2.2.2.2, e2], Df.1, Df.2.1, by omega⟩
          · have hj2 : 2 + 4 * (K + T) + 3 < n := by omega
            have hz := X'.cell D2 hj2
            have hgo := tg_3 (RC_dr D2.1.1 xD) xS hK hT D2.2.2.1.2.2.1 (rfl : 2 + 4 * (K + T) + 3 = 2 + 4 * (K + T) + 3) (g2.1 Q (p + (2 + 4 * (K + T) + 3)))
            rw [CL_go X' hj2 hgo, hz]
            clear hz hgo
            generalize g2.1 Q (p + (2 + 4 * (K + T) + 3)) = z2
            by_cases c2 : dgV z2 0 7 = 0
            · left
              rw [if_pos c2, if_neg (show ¬ (b + (2 + 4 * (K + T) + 3) < b + n ∧ ¬ dgV z2 0 7 = 0) from fun q => q.2 c2), bnd_s]
              have q2 : ∀ v x, (pI (pI n2 15 (3 * T + 2) v) 0 23 x).2 = m.2 := fun v x => m2
              have v15 : ∀ x, (pI (pI n2 15 (3 * T + 2) (-9)) 0 23 x).1 15 (3 * T + 2) = -9 := fun x => by rw [pI_1, if_neg (fun z => absurd z.1 (by decide)), pI_1, if_pos ⟨rfl, rfl⟩]
              have v23 : (pI n2 15 (3 * T + 2) (-9)).1 0 23 = nI T := by rw [pI_1, if_neg (fun z => absurd z.1 (by decide))]; exact D2.2.2.2.2.2.1
              simp only [nI_1, n2q, a2, ck_t, nm_x, cl_i (show 3 * T + 2 < 2 ^ 31 by omega), q2, r25, ob_s, v15]
              rw [if_pos trivial, v23, nI_1]
              have Df := ((D2.m (q := 15) (i := 3 * T + 2) (v := -9) (Or.inr rfl)).tm (T + 1)).g (r := 7) (i := T) (v := z2 - 48) (by decide)
              exact ⟨2 + 4 * (K + T) + 3, _, _, rfl, rfl, Df.2.2.2.2.2.2, Df.1, Df.2.1, by omega⟩
            · right
              rw [if_neg c2, if_pos (show b + (2 + 4 * (K + T) + 3) < b + n ∧ ¬ dgV z2 0 7 = 0 from ⟨by omega, c2⟩), bnd_s]
              obtain ⟨y2, hl2, hy2, ey2⟩ := dg_in (lo := 0) (hi := 7) (by omega) (by decide) c2
              have q2 : ∀ v x, (pI (pI (pI n2 0 20 (nI (b + (2 + 4 * (K + T) + 3) + 1))) 15 (3 * T + 2) v) 0 23 x).2 = m.2 := fun v x => m2
              have v15 : ∀ x, (pI (pI (pI n2 0 20 (nI (b + (2 + 4 * (K + T) + 3) + 1))) 15 (3 * T + 2) (z2 - 48)) 0 23 x).1 15 (3 * T + 2) = z2 - 48 := fun x => by rw [pI_1, if_neg (fun z => absurd z.1 (by decide)), pI_1, if_pos ⟨rfl, rfl⟩]
              have v23 : ∀ v, (pI (pI n2 0 20 (nI (b + (2 + 4 * (K + T) + 3) + 1))) 15 (3 * T + 2) v).1 0 23 = nI T := fun v => by rw [pI_1, if_neg (fun z => absurd z.1 (by decide)), pI_1, if_neg (fun z => absurd z.2 (by decide))]; exact D2.2.2.2.2.2.1
              simp only [nI_1, n2q, a2, ck_t, nm_x, cl_i (show 3 * T + 2 < 2 ^ 31 by omega), q2, r25, ob_s, v15, v23]
              rw [if_neg (by rw [ey2]; exact nIne9 (by omega))]
              have D3 := (((D2.at_ (b + (2 + 4 * (K + T) + 3) + 1)).m (q := 15) (i := 3 * T + 2) (v := z2 - 48) (Or.inr rfl)).tm (T + 1)).g (r := 7) (i := T) (v := z2 - 48) (by decide)
              rw [show b + (2 + 4 * (K + T) + 3) + 1 = b + (2 + 4 * (K + (T + 1))) by omega] at D3 v15 ⊢
              refine ⟨_, _, by rw [show 2 + 4 * (K + T) + 3 + 1 = 2 + 4 * (K + (T + 1)) by omega], rfl, D3, ?_, JK2.c (fun r _ _ i hi => by rw [pI_1, if_neg (fun z => absurd z.1 (by omega))]) (fun j hj => by rw [pI_1, if_neg (fun z => absurd z.1 (by decide)), pI_1, if_neg (fun z => absurd z.1 (by decide)), pI_1, if_neg (fun z => absurd z.1 (by decide))]), by omega⟩
              intro i hi
              by_cases q : i = T
              · subst q
                have o1 : ∀ r, r ≠ 7 → (pI g2 (e + 7) i (z2 - 48)).1 (e + r) i = g2.1 (e + r) i := fun r hr => by rw [pI_1, if_neg (fun z => absurd z.1 (by omega))]
                have o3 : (pI g2 (e + 7) i (z2 - 48)).1 (e + 7) i = z2 - 48 := by rw [pI_1, if_pos ⟨rfl, rfl⟩]
                have p0 : ∀ j, j ≠ 3 * i + 2 → (pI (pI (pI n2 0 20 (nI (b + (2 + 4 * (K + (i + 1)))))) 15 (3 * i + 2) (z2 - 48)) 0 23 (nI (i + 1))).1 15 j = n2.1 15 j := fun j hj => by rw [pI_1, if_neg (fun z => absurd z.1 (by decide)), pI_1, if_neg (fun z => hj z.2), pI_1, if_neg (fun z => absurd z.1 (by decide))]
                rw [o1 5 (by decide), o1 6 (by decide), o3, p0 _ (by omega), p0 _ (by omega), v15, w10, w11, u10, u11]
                exact ⟨⟨y0, by omega, ey0⟩, ⟨y1, by omega, by omega, ey1⟩, ⟨y2, by omega, ey2⟩, rfl, rfl, rfl⟩
              · exact JT.c (T := T) J2 (fun r _ _ x hx => by rw [pI_1, if_neg (fun z => absurd z.2 (by omega))]) (fun j hj => by rw [pI_1, if_neg (fun z => absurd z.1 (by decide)), pI_1, if_neg (fun z => absurd z.2 (by omega)), pI_1, if_neg (fun z => absurd z.1 (by decide))]) i (by omega)
