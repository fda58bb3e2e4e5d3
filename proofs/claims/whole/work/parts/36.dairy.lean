theorem RC_turn {h : Hp} {d w : Nat} (hd : d = 23 ∨ d = 45) (hR : RC h d w) : RC (pR (pR h 0 4 (some (68 - d))) 0 5 (some d)) (68 - d) w := by
  unfold RC DR at hR ⊢
  simp only [pR_2]
  rcases hd with rfl | rfl <;> simp at hR <;> simp [hR]
def P26 (m g : Hp) (i : Nat) : Prop := g.2 = m.2 ∧ (∀ q, ¬ (4 ≤ q ∧ q ≤ 7) → g.1 q = m.1 q) ∧ ∀ j, j < i → g.1 4 j = m.1 14 (3 * j) ∧ g.1 5 j = m.1 14 (3 * j + 1) ∧ g.1 6 j = m.1 14 (3 * j + 2) ∧ g.1 7 j = -9
theorem td_26 {m : Hp} (hM : RM m) {K : Nat} (hK : K ≤ 4) (mK : m.1 0 6 = nI K) (kk : Hp → Option (Unit × Hp)) : ∀ (N i : Nat) (g : Hp), P26 m g i → i ≤ K → K + 1 ≤ i + N → ∃ g', F_X7_takeDairy_L26 kk 0 N (nI i) g = kk g' ∧ P26 m g' K := by
  unfold RM at hM
  intro N
  induction N with
  | zero => intro i g h1 h2 h3; omega
  | succ N ih =>
    intro i g hg h2 h3
    obtain ⟨g1, g2, g3⟩ := hg
    rw [F_X7_takeDairy_L26, g2 0 (by omega), mK]
    by_cases e : i = K
    · subst e
      rw [if_pos (Int32.le_refl _)]
      exact ⟨g, rfl, g1, g2, g3⟩
    · rw [if_neg (nI_ge (show i < K by omega) (by omega))]
      have e3 : (3 : Int32) * nI i = nI (3 * i) := by rw [show (3 : Int32) = nI 3 from rfl, pk_mul]
      have a4 := aIn_i (sh := shM) (q := 4) (n := 4) (by decide +kernel) (show i < 4 by omega) (by decide)
      have a5 := aIn_i (sh := shM) (q := 5) (n := 4) (by decide +kernel) (show i < 4 by omega) (by decide)
      have a6 := aIn_i (sh := shM) (q := 6) (n := 4) (by decide +kernel) (show i < 4 by omega) (by decide)
      have a7 := aIn_i (sh := shM) (q := 7) (n := 4) (by decide +kernel) (show i < 4 by omega) (by decide)
      have b0 := aIn_i (sh := shM) (q := 14) (n := 12) (by decide +kernel) (show 3 * i < 12 by omega) (by decide)
      have b1 := aIn_i (sh := shM) (q := 14) (n := 12) (by decide +kernel) (show 3 * i + 1 < 12 by omega) (by decide)
      have b2 := aIn_i (sh := shM) (q := 14) (n := 12) (by decide +kernel) (show 3 * i + 2 < 12 by omega) (by decide)
      simp only [pI_2, g1, hM, ob_s, e3, nI_1, n2, b0, b1, b2, a4, a5, a6, a7, ck_t, nm_x, cl_i (show i < 2 ^ 31 by omega), cl_i (show 3 * i < 2 ^ 31 by omega), cl_i (show 3 * i + 1 < 2 ^ 31 by omega), cl_i (show 3 * i + 2 < 2 ^ 31 by omega)]
      have v1 : ∀ x j, (pI g 4 i x).1 14 j = m.1 14 j := fun x j => by rw [pI_1, if_neg (fun z => absurd z.1 (by decide)), g2 14 (by omega)]
      have v2 : ∀ x y j, (pI (pI g 4 i x) 5 i y).1 14 j = m.1 14 j := fun x y j => by rw [pI_1, if_neg (fun z => absurd z.1 (by decide)), v1]
      rw [v1, v2, g2 14 (by omega)]
      refine ih (i + 1) _ ⟨g1, fun q hq => ?_, fun j hj => ?_⟩ (by omega) (by omega)
      · rw [← g2 q hq]
        funext j
        rw [pI_1, if_neg (by omega), pI_1, if_neg (by omega), pI_1, if_neg (by omega), pI_1, if_neg (by omega)]
      · by_cases q : j = i
        · subst q
          refine ⟨?_, ?_, ?_, ?_⟩
          · rw [pI_1, if_neg (fun z => absurd z.1 (by decide)), pI_1, if_neg (fun z => absurd z.1 (by decide)), pI_1, if_neg (fun z => absurd z.1 (by decide)), pI_1, if_pos ⟨rfl, rfl⟩]
          · rw [pI_1, if_neg (fun z => absurd z.1 (by decide)), pI_1, if_neg (fun z => absurd z.1 (by decide)), pI_1, if_pos ⟨rfl, rfl⟩]
          · rw [pI_1, if_neg (fun z => absurd z.1 (by decide)), pI_1, if_pos ⟨rfl, rfl⟩]
          · rw [pI_1, if_pos ⟨rfl, rfl⟩]
        · have o : ∀ r, (pI (pI (pI (pI g 4 i (m.1 14 (3 * i))) 5 i (m.1 14 (3 * i + 1))) 6 i (m.1 14 (3 * i + 2))) 7 i (-9)).1 r j = g.1 r j := fun r => by rw [pI_1, if_neg (fun z => q z.2), pI_1, if_neg (fun z => q z.2), pI_1, if_neg (fun z => q z.2), pI_1, if_neg (fun z => q z.2)]
          rw [o, o, o, o]
          exact g3 j (by omega)
def P96 (m g : Hp) (i : Nat) : Prop := g.2 = m.2 ∧ (∀ q, ¬ (8 ≤ q ∧ q ≤ 10) → g.1 q = m.1 q) ∧ ∀ j, j < i → g.1 8 j = m.1 15 (3 * j) ∧ g.1 9 j = m.1 15 (3 * j + 1) ∧ g.1 10 j = m.1 15 (3 * j + 2)
theorem td_96 {m : Hp} (hM : RM m) {K : Nat} (hK : K ≤ 8) (mK : m.1 0 7 = nI K) : ∀ (N i : Nat) (g : Hp), P96 m g i → i ≤ K → K + 1 ≤ i + N → ∃ g', F_X7_takeDairy_L96 0 N (nI i) g = some ((), pI (pI g' 0 15 0) 0 29 0) ∧ P96 m g' K := by
  unfold RM at hM
  intro N
  induction N with
  | zero => intro i g h1 h2 h3; omega
  | succ N ih =>
    intro i g hg h2 h3
    obtain ⟨g1, g2, g3⟩ := hg
    rw [F_X7_takeDairy_L96, g2 0 (by omega), mK]
    by_cases e : i = K
    · subst e
      rw [if_pos (Int32.le_refl _), nm_x, nm_x]
      exact ⟨g, rfl, g1, g2, g3⟩
    · rw [if_neg (nI_ge (show i < K by omega) (by omega))]
      have e3 : (3 : Int32) * nI i = nI (3 * i) := by rw [show (3 : Int32) = nI 3 from rfl, pk_mul]
      have a4 := aIn_i (sh := shM) (q := 8) (n := 8) (by decide +kernel) (show i < 8 by omega) (by decide)
      have a5 := aIn_i (sh := shM) (q := 9) (n := 8) (by decide +kernel) (show i < 8 by omega) (by decide)
      have a6 := aIn_i (sh := shM) (q := 10) (n := 8) (by decide +kernel) (show i < 8 by omega) (by decide)
      have b0 := aIn_i (sh := shM) (q := 15) (n := 24) (by decide +kernel) (show 3 * i < 24 by omega) (by decide)
      have b1 := aIn_i (sh := shM) (q := 15) (n := 24) (by decide +kernel) (show 3 * i + 1 < 24 by omega) (by decide)
      have b2 := aIn_i (sh := shM) (q := 15) (n := 24) (by decide +kernel) (show 3 * i + 2 < 24 by omega) (by decide)
      simp only [pI_2, g1, hM, ob_s, e3, nI_1, n2, b0, b1, b2, a4, a5, a6, ck_t, nm_x, cl_i (show i < 2 ^ 31 by omega), cl_i (show 3 * i < 2 ^ 31 by omega), cl_i (show 3 * i + 1 < 2 ^ 31 by omega), cl_i (show 3 * i + 2 < 2 ^ 31 by omega)]
      have v1 : ∀ x j, (pI g 8 i x).1 15 j = m.1 15 j := fun x j => by rw [pI_1, if_neg (fun z => absurd z.1 (by decide)), g2 15 (by omega)]
      have v2 : ∀ x y j, (pI (pI g 8 i x) 9 i y).1 15 j = m.1 15 j := fun x y j => by rw [pI_1, if_neg (fun z => absurd z.1 (by decide)), v1]
      rw [v1, v2, g2 15 (by omega)]
      refine ih (i + 1) _ ⟨g1, fun q hq => ?_, fun j hj => ?_⟩ (by omega) (by omega)
      · rw [← g2 q hq]
        funext j
        rw [pI_1, if_neg (by omega), pI_1, if_neg (by omega), pI_1, if_neg (by omega)]
      · by_cases q : j = i
        · subst q
          refine ⟨?_, ?_, ?_⟩
          · rw [pI_1, if_neg (fun z => absurd z.1 (by decide)), pI_1, if_neg (fun z => absurd z.1 (by decide)), pI_1, if_pos ⟨rfl, rfl⟩]
          · rw [pI_1, if_neg (fun z => absurd z.1 (by decide)), pI_1, if_pos ⟨rfl, rfl⟩]
          · rw [pI_1, if_pos ⟨rfl, rfl⟩]
        · have o : ∀ r, (pI (pI (pI g 8 i (m.1 15 (3 * i))) 9 i (m.1 15 (3 * i + 1))) 10 i (m.1 15 (3 * i + 2))).1 r j = g.1 r j := fun r => by rw [pI_1, if_neg (fun z => q z.2), pI_1, if_neg (fun z => q z.2), pI_1, if_neg (fun z => q z.2)]
          rw [o, o, o]
          exact g3 j (by omega)
theorem take_x {k m : Hp} (xM : RM k) (F : FrM k m) {C K T : Nat} (hK : K ≤ 4) (hT : T ≤ 8) (v1 : m.1 0 21 = nI C) (v2 : m.1 0 22 = nI K) (v3 : m.1 0 23 = nI T) : ∃ g, F_X7_takeDairy 0 m = some ((), g) ∧ g.2 = k.2 ∧ (g.1 0 5 = nI C ∧ g.1 0 6 = nI K ∧ g.1 0 7 = nI T ∧ g.1 0 15 = 0 ∧ g.1 0 29 = 0) ∧ (∀ j, ¬ (j = 5 ∨ j = 6 ∨ j = 7 ∨ j = 15 ∨ j = 29) → g.1 0 j = m.1 0 j) ∧ (∀ q, q = 1 ∨ q = 2 ∨ q = 3 → g.1 q = k.1 q) ∧ (∀ j, j < K → g.1 4 j = m.1 14 (3 * j) ∧ g.1 5 j = m.1 14 (3 * j + 1) ∧ g.1 6 j = m.1 14 (3 * j + 2) ∧ g.1 7 j = -9) ∧ ∀ j, j < T → g.1 8 j = m.1 15 (3 * j) ∧ g.1 9 j = m.1 15 (3 * j + 1) ∧ g.1 10 j = m.1 15 (3 * j + 2) := by
  unfold F_X7_takeDairy
  have w1 : (pI m 0 5 (m.1 0 21)).1 0 22 = nI K := by rw [pI_1, if_neg (by decide)]; exact v2
  have w2 : (pI (pI m 0 5 (m.1 0 21)) 0 6 (nI K)).1 0 23 = nI T := by rw [pI_1, if_neg (by decide), pI_1, if_neg (by decide)]; exact v3
  rw [nm_x, nm_x, w1, nm_x, w2, v1]
  have o0 : ∀ j, ¬ (j = 5 ∨ j = 6 ∨ j = 7) → (pI (pI (pI m 0 5 (nI C)) 0 6 (nI K)) 0 7 (nI T)).1 0 j = m.1 0 j := fun j hj => by rw [pI_1, if_neg (by omega), pI_1, if_neg (by omega), pI_1, if_neg (by omega)]
  have oq : ∀ q, q ≠ 0 → (pI (pI (pI m 0 5 (nI C)) 0 6 (nI K)) 0 7 (nI T)).1 q = m.1 q := fun q hq => by
    funext j
    rw [pI_1, if_neg (fun z => hq z.1), pI_1, if_neg (fun z => hq z.1), pI_1, if_neg (fun z => hq z.1)]
  have o5 : (pI (pI (pI m 0 5 (nI C)) 0 6 (nI K)) 0 7 (nI T)).1 0 5 = nI C := by rw [pI_1, if_neg (by decide), pI_1, if_neg (by decide), pI_1, if_pos (by decide)]
  have o6 : (pI (pI (pI m 0 5 (nI C)) 0 6 (nI K)) 0 7 (nI T)).1 0 6 = nI K := by rw [pI_1, if_neg (by decide), pI_1, if_pos (by decide)]
  have o7 : (pI (pI (pI m 0 5 (nI C)) 0 6 (nI K)) 0 7 (nI T)).1 0 7 = nI T := by rw [pI_1, if_pos (by decide)]
  have o2 : (pI (pI (pI m 0 5 (nI C)) 0 6 (nI K)) 0 7 (nI T)).2 = k.2 := F.1
  generalize pI (pI (pI m 0 5 (nI C)) 0 6 (nI K)) 0 7 (nI T) = c at o0 oq o5 o6 o7 o2
  obtain ⟨g1, x1, x2, x3, x4⟩ := td_26 (RM_c o2 xM) hK o6 (fun h20 => F_X7_takeDairy_L96 0 FU (0 : Int32) h20) FU 0 c ⟨rfl, fun _ _ => rfl, fun j hj => absurd hj (by omega)⟩ (by omega) (by unfold FU; omega)
  rw [nI_0] at x1
  rw [x1]
  obtain ⟨g2, y1, y2, y3, y4⟩ := td_96 (m := g1) (RM_c (x2.trans o2) xM) hT (by rw [x3 0 (by omega)]; exact o7) FU 0 g1 ⟨rfl, fun _ _ => rfl, fun j hj => absurd hj (by omega)⟩ (by omega) (by unfold FU; omega)
  rw [nI_0] at y1
  have z0 : ∀ j, ¬ (j = 15 ∨ j = 29) → (pI (pI g2 0 15 0) 0 29 0).1 0 j = c.1 0 j := fun j hj => by rw [pI_1, if_neg (by omega), pI_1, if_neg (by omega), y3 0 (by omega), x3 0 (by omega)]
  have zq : ∀ q, q ≠ 0 → (pI (pI g2 0 15 0) 0 29 0).1 q = g2.1 q := fun q hq => by
    funext j
    rw [pI_1, if_neg (fun z => hq z.1), pI_1, if_neg (fun z => hq z.1)]
  refine ⟨_, y1, y2.trans (x2.trans o2), ⟨?_, ?_, ?_, ?_, ?_⟩, ?_, ?_, ?_, ?_⟩
  · rw [z0 5 (by decide)]; exact o5
  · rw [z0 6 (by decide)]; exact o6
  · rw [z0 7 (by decide)]; exact o7
  · rw [pI_1, if_neg (by decide), pI_1, if_pos (by decide)]
  · rw [pI_1, if_pos (by decide)]
  · intro j hj
    rw [z0 j (by omega), o0 j (by omega)]
  · intro q hq
    rw [zq q (by omega), y3 q (by omega), x3 q (by omega), oq q (by omega), F.2.1 q (by omega) (by omega) (by omega)]
  · intro j hj
    rw [zq 4 (by decide), zq 5 (by decide), zq 6 (by decide), zq 7 (by decide), y3 4 (by omega), y3 5 (by omega), y3 6 (by omega), y3 7 (by omega), ← oq 14 (by decide)]
    exact x4 j hj
  · intro j hj
    rw [zq 8 (by decide), zq 9 (by decide), zq 10 (by decide), ← oq 15 (by decide), ← x3 15 (by omega)]
    exact y4 j hj
theorem In0.fails {h k g m : Hp} {d w C K T M R : Nat} (I : In0 h k d w C K T M R) (Fg : FrC h g (68 - d)) (Fm : FrM k m) : In0 g m d w C K T M R := by
  have hd := I.1
  have I2 := I.work (h' := g) I.2.1 (RC_c Fg.1 I.2.2.1) (fun q hq => Fg.2 q (by omega))
  refine I2.frame rfl Fm.1 ?_ ?_ rfl ?_ rfl ?_
  · rw [Fm.2.2 0 (by omega)]; exact I2.2.2.2.2.1.1
  · rw [Fm.2.2 1 (by omega)]; exact I2.2.2.2.2.1.2
  · funext q j
    unfold ks
    split
    · rw [Fm.2.1 q (by omega) (by omega) (by omega)]
    · rfl
  · funext q j
    unfold kd
    split
    · next c =>
      by_cases e : q = 0
      · subst e
        rw [Fm.2.2 j (by omega)]
      · rw [Fm.2.1 q e (by omega) (by omega)]
    · rfl
theorem In0.takes {h k g m : Hp} {d w C K T M R : Nat} (I : In0 h k d w C K T M R) {C' K' T' a : Nat} (D : DS h k g m (68 - d) C' K' T' K' T' a) (JK : JC g m (68 - d) C' K') (J : JT g m (68 - d) C' T') (hC : 0 < C' ∧ C' ≤ 5) (hK : 0 < K' ∧ K' ≤ 4) (hT : 0 < T' ∧ T' ≤ 8) :
    ∃ m', F_X7_takeDairy 0 m = some ((), m') ∧ m'.1 0 7 = nI T' ∧ In0 (pCar (pR (pR (pB g (68 - d + 4) 0 4 (-9)) 0 4 (some (68 - d))) 0 5 (some d)) (68 - d) 0 K' 0) m' (68 - d) w C' K' T' 0 0 := by
  have hd := I.1
  obtain ⟨Fg, Fm, ⟨c1, c2, c3, c4, c5⟩, v1, v2, v3, v4⟩ := D
  obtain ⟨m', x1, x2, ⟨p5, p6, p7, p15, p29⟩, x4, x5, x6, x7⟩ := take_x I.2.2.2.1 Fm hK.2 hT.2 v1 v2 v3
  refine ⟨m', x1, p7, ?_⟩
  have he : 68 - d = 23 ∨ 68 - d = 45 := by omega
  generalize hed : 68 - d = e at *
  have hb : ∀ q, q ≠ e + 4 → (pB g (e + 4) 0 4 (-9)).1 q = g.1 q := fun q hq => by
    funext j
    rw [pB_1, if_neg (fun z => hq z.1)]
  have hrow : ∀ q j, q < 21 → dv (pR (pR (pB g (e + 4) 0 4 (-9)) 0 4 (some e)) 0 5 (some d)) e q j = (pB g (e + 4) 0 4 (-9)).1 (e + q) j := fun q j hq => dv_r hq
  have hrg : ∀ q j, q < 21 → q ≠ 4 → dv (pR (pR (pB g (e + 4) 0 4 (-9)) 0 4 (some e)) 0 5 (some d)) e q j = g.1 (e + q) j := fun q j hq h4 => by rw [hrow q j hq, hb (e + q) (by omega)]
  have hRC : RC (pR (pR (pB g (e + 4) 0 4 (-9)) 0 4 (some e)) 0 5 (some d)) e w := by
    rw [← hed]
    exact RC_turn hd (RC_c (h := h) (by rw [← Fg.1]; rfl) I.2.2.1)
  refine In0.ofCarry he I.2.1 hRC (RM_c x2 I.2.2.2.1) ⟨?_, ?_⟩ ?_ ⟨?_, ?_, ?_, ?_, ?_⟩ ⟨hC.2, hK.2, hT.2, by decide, by decide⟩ ⟨?_, ?_, ?_, ?_, ?_, ?_⟩ ?_ ?_ (fun i hi => absurd hi (by omega)) (fun i hi => absurd hi (by omega))
  · rw [x4 0 (by decide), Fm.2.2 0 (by omega), pR_1, pR_1, hb 0 (by omega), Fg.2 0 (by omega)]
    exact I.2.2.2.2.1.1
  · rw [x4 1 (by decide), Fm.2.2 1 (by omega), pR_1, pR_1, hb 0 (by omega), Fg.2 0 (by omega)]
    exact I.2.2.2.2.1.2
  · have e1 : hs (pR (pR (pB g (e + 4) 0 4 (-9)) 0 4 (some e)) 0 5 (some d)) = hs h := by
      funext q j
      unfold hs
      split
      · rw [pR_1, pR_1, hb q (by omega), Fg.2 q (by omega)]
      · rfl
    have e2 : ks m' = ks k := by
      funext q j
      unfold ks
      split
      · rw [x5 q (by omega)]
      · rfl
    rw [e1, e2]
    exact I.2.2.2.2.2.1
  · rw [hrg 0 0 (by decide) (by decide)]; exact c1
  · rw [hrg 0 1 (by decide) (by decide)]; exact c2
  · rw [hrg 0 2 (by decide) (by decide)]; exact c3
  · rw [hrg 8 3 (by decide) (by decide)]; exact c4
  · rw [hrg 12 3 (by decide) (by decide)]; exact c5
  · rw [kd_r (by decide)]; exact p5
  · rw [kd_r (by decide)]; exact p6
  · rw [kd_r (by decide)]; exact p7
  · rw [kd_r (by decide)]; exact p15
  · rw [kd_r (by decide)]; exact p29
  · rw [kd_r (by decide), x4 19 (by decide), Fm.2.2 19 (by omega), ← kd_r (by decide)]
    exact I.2.2.2.2.2.2.2.2.1.2.2.2.2.2
  · intro i hi
    obtain ⟨j1, j2, j3, j4, j5, j6⟩ := JK i hi
    obtain ⟨t1, t2, t3, t4⟩ := x6 i hi
    have r4 : dv (pR (pR (pB g (e + 4) 0 4 (-9)) 0 4 (some e)) 0 5 (some d)) e 4 i = -9 := by rw [hrow 4 i (by decide), pB_1, if_pos ⟨rfl, by omega, by omega⟩]
    unfold okC
    rw [hrg 1 i (by decide) (by decide), hrg 2 i (by decide) (by decide), hrg 3 i (by decide) (by decide), r4, kd_r (by omega), kd_r (by omega), kd_r (by omega), kd_r (by omega), t1, t2, t3, t4]
    exact ⟨j1, j2, j3, Or.inl rfl, j4, j5, j6, rfl⟩
  · intro i hi
    obtain ⟨j1, j2, j3, j4, j5, j6⟩ := J i hi
    obtain ⟨t1, t2, t3⟩ := x7 i hi
    unfold okT
    rw [hrg 5 i (by decide) (by decide), hrg 6 i (by decide) (by decide), hrg 7 i (by decide) (by decide), kd_r (by omega), kd_r (by omega), kd_r (by omega), t1, t2, t3]
    exact ⟨j1, j2, j3, j4, j5, j6⟩
theorem st_dairy : ∀ a b c d' : Int32, SP Inv (fun h => F_X6_dairy 0 a b c d' h) (fun k => F_X7_dairy 0 a b c d' k) := by
  rintro p0 p1 p2 p3 h k ⟨d, w, C, K, T, M, R, I⟩
  replace I := I.fault 0
  dsimp only
  unfold F_X6_dairy F_X7_dairy
  simp only [nm_x]
  generalize pI h 0 7 0 = h at I ⊢
  generalize pI k 0 0 0 = k at I ⊢
  rcases sheet_q p0 h k with ⟨e1, e2⟩ | ⟨i, hi, rfl, e1, e2⟩
  · rw [e1, e2]
    simp only [bnd_s, if_true]
    exact ⟨-1, h, k, rfl, rfl, d, w, C, K, T, M, R, I⟩
  rw [e1, e2]
  simp only [bnd_s, if_neg (show ¬ (1 : Int32) = 0 by decide)]
  rcases lane_q p1 h k with ⟨e1, e2⟩ | ⟨l, hl, rfl, e1, e2⟩
  · rw [e1, e2]
    simp only [bnd_s, if_true]
    exact ⟨-2, h, k, rfl, rfl, d, w, C, K, T, M, R, I⟩
  rw [e1, e2]
  simp only [bnd_s, if_neg (show ¬ (1 : Int32) = 0 by decide)]
  obtain ⟨r1, r2, r3, r4, r5, r6⟩ := I.2.2.1.sheet hi
  have a1 := aRn_i (kd := 2) r6 hi (by decide)
  unfold F_X6_dairy_J53 F_X6_dairy_J72
  simp only [r1, ob_s, a1, ck_t, cl_i (show i < 2 ^ 31 by omega), r2, gO_s, r4]
  rcases against_q I hi (nI l) p2 p3 with ⟨f, hf, g1, g2⟩ | ⟨m, hm, u1, g1, g2⟩
  · rw [g1, g2]
    have hf0 : ¬ f = 0 := by rcases hf with rfl | rfl <;> decide
    simp only [bnd_s, if_neg hf0, faultyX, failsM]
    exact ⟨_, _, _, rfl, rfl, d, w, C, K, T, M, R, I.fault f⟩
  · rw [g1, g2]
    simp only [bnd_s, if_true, hasCells_x, u1]
    by_cases c0 : p3 < 0
    · simp only [if_pos c0, if_neg (Int32.not_le.mpr c0), if_neg (show ¬ (4 : Int32) = 0 by decide), faultyX, failsM, bnd_s]
      exact ⟨_, _, _, rfl, rfl, d, w, C, K, T, M, R, I.fault 4⟩
    simp only [if_neg c0, if_pos (Int32.not_lt.mp c0)]
    by_cases c5 : hcv (nI m) p2 p3 = 0
    · simp only [if_pos c5, if_neg (show ¬ (3 : Int32) = 0 by decide), faultyX, failsM, bnd_s]
      exact ⟨_, _, _, rfl, rfl, d, w, C, K, T, M, R, I.fault 3⟩
    · simp only [if_neg c5, if_true]
      have hin : ∃ p n, p2 = nI p ∧ p3 = nI n ∧ p + n ≤ 60 := by
        unfold hcv at c5
        by_cases q1 : p2 < 0
        · rw [if_pos q1] at c5; exact absurd rfl c5
        rw [if_neg q1] at c5
        by_cases q2 : nI m < p2
        · rw [if_pos q2] at c5; exact absurd rfl c5
        rw [if_neg q2, if_neg c0] at c5
        by_cases q3 : nI m - p2 < p3
        · rw [if_pos q3] at c5; exact absurd rfl c5
        obtain ⟨x, y, e8, e9, g3⟩ := hc_in hm q1 q2 c0 q3
        exact ⟨x, y, e8, e9, by omega⟩
      obtain ⟨p, n, rfl, rfl, hpn⟩ := hin
      have hd := I.1
      have he : 68 - d = 23 ∨ 68 - d = 45 := by omega
      have hR := I.2.2.1
      have hDe : DR h (68 - d) := by
        unfold RC at hR
        rcases he with q | q
        · rw [q]
          simp only [hR]
        · rw [q]
          simp only [hR]
      have hSe := SD_of he
      have X : Tx h k (68 - d) (68 + 2 * i) p (60 * i + p) n := ⟨hDe, hSe, I.2.2.2.1, by omega, r5, hpn, by omega, fun j hj => by
        have := (I.sh hi).2.2 (p + j) (by omega)
        rw [← Nat.add_assoc] at this
        exact this⟩
      have s5 : h.2 0 5 = some (68 - d) := by unfold RC at hR; simp only [hR]
      have s4 : h.2 0 4 = some d := by unfold RC at hR; simp only [hR]
      have t10 : h.2 (68 - d) 10 = some (68 - d + 8) := by unfold DR at hDe; simp only [hDe]
      have t11 : h.2 (68 - d) 11 = some (68 - d + 12) := by unfold DR at hDe; simp only [hDe]
      have t6 : h.2 (68 - d) 6 = some (68 - d + 4) := by unfold DR at hDe; simp only [hDe]
      have i0 : isO shC (68 - d) 0 = true := by unfold SD at hSe; simp only [hSe]
      have i8 : isO shC (68 - d + 8) 3 = true := by unfold SD at hSe; simp only [hSe]
      have i12 : isO shC (68 - d + 12) 3 = true := by unfold SD at hSe; simp only [hSe]
      have id' : isO shC d 0 = true := by have := SD_of hd; unfold SD at this; simp only [this]
      have s4' : shC[68 - d + 4]? = some (1, 4) := by unfold SD at hSe; simp only [hSe]
      have hG : FrC h (pI (pI (pI (pI (pI h (68 - d) 0 0) (68 - d) 1 0) (68 - d) 2 0) (68 - d + 8) 3 0) (68 - d + 12) 3 0) (68 - d) := ((((FrC.p (e := 68 - d) ⟨rfl, fun _ _ => rfl⟩ (by omega)).p (by omega)).p (by omega)).p (by omega)).p (by omega)
      have G1 : (pI (pI (pI (pI (pI h (68 - d) 0 0) (68 - d) 1 0) (68 - d) 2 0) (68 - d + 8) 3 0) (68 - d + 12) 3 0).1 (68 - d) 1 = 0 := by rw [pI_1, if_neg (fun z => absurd z.2 (by decide)), pI_1, if_neg (fun z => absurd z.2 (by decide)), pI_1, if_neg (fun z => absurd z.2 (by decide)), pI_1, if_pos ⟨rfl, rfl⟩]
      have G2 : (pI (pI (pI (pI (pI h (68 - d) 0 0) (68 - d) 1 0) (68 - d) 2 0) (68 - d + 8) 3 0) (68 - d + 12) 3 0).1 (68 - d) 2 = 0 := by rw [pI_1, if_neg (fun z => absurd z.2 (by decide)), pI_1, if_neg (fun z => absurd z.2 (by decide)), pI_1, if_pos ⟨rfl, rfl⟩]
      have G3 : (pI (pI (pI (pI (pI h (68 - d) 0 0) (68 - d) 1 0) (68 - d) 2 0) (68 - d + 8) 3 0) (68 - d + 12) 3 0).1 (68 - d + 8) 3 = 0 := by rw [pI_1, if_neg (fun z => absurd z.1 (by omega)), pI_1, if_pos ⟨rfl, rfl⟩]
      have G4 : (pI (pI (pI (pI (pI h (68 - d) 0 0) (68 - d) 1 0) (68 - d) 2 0) (68 - d + 8) 3 0) (68 - d + 12) 3 0).1 (68 - d + 12) 3 = 0 := by rw [pI_1, if_pos ⟨rfl, rfl⟩]
      have hMx : FrM k (pI k 0 20 (nI (60 * i + p))) := FrM.p0 ⟨rfl, fun _ _ _ _ => rfl, fun _ _ => rfl⟩ (by decide)
      have hta : F_X0_takeText (68 - d) (68 + 2 * i) (nI p) (nI n) h = CL (68 - d) (68 + 2 * i) p n 0 (pI (pI (pI (pI (pI h (68 - d) 0 0) (68 - d) 1 0) (68 - d) 2 0) (68 - d + 8) 3 0) (68 - d + 12) 3 0) := by
        unfold F_X0_takeText
        simp only [nm_x, pI_2, t10, t11, gO_s, i8, i12, ck_t]
        rfl
      have hre := read_x X hG hMx G1 G2 G3 G4 (by rw [pI_1, if_pos (by decide)])
      rw [← hta] at hre
      have hx8 : nI (60 * i + p) + nI n = nI (60 * i + p + n) := by rw [nI_add]
      simp only [s5, gO_s, i0, ck_t, r3, ob_s, ix60, hx8]
      rcases hre with ⟨pl, g', m', y1, y2, y3, y4, y5, y6⟩ | ⟨C', K', T', g', m', y1, y2, y3, y4, y5, y6, y7, y8, y9⟩
      · rw [y1, y2]
        simp only [bnd_s, if_true, if_neg (nIne9 (show pl < 2 ^ 31 by omega)), y3]
        rw [pk_sub (show 60 * i + p ≤ 60 * i + p + pl by omega), show 60 * i + p + pl - (60 * i + p) = pl by omega]
        exact ⟨_, g', m', rfl, rfl, d, w, C, K, T, M, R, I.fails y4 y5⟩
      · obtain ⟨m2, z1, z2, z3⟩ := I.takes y3 y4 y5 y6 y7 y8
        have hD' : DR (pB g' (68 - d + 4) 0 4 (-9)) (68 - d) := RC_dr (h := h) (by rw [← y3.1.1]; rfl) hDe
        have gM : (pB g' (68 - d + 4) 0 4 (-9)).1 (68 - d + 8) 3 = nI 0 := by rw [pB_1, if_neg (fun z => absurd z.1 (by omega))]; exact y3.2.2.1.2.2.2.1
        have gK : (pB g' (68 - d + 4) 0 4 (-9)).1 (68 - d) 1 = nI K' := by rw [pB_1, if_neg (fun z => absurd z.1 (by omega))]; exact y3.2.2.1.2.1
        have hca := carry_x hD' hSe gM (by decide) gK y7.2
        have hkT : kT (68 - d) (nI n) g' = some (-9, pCar (pB g' (68 - d + 4) 0 4 (-9)) (68 - d) 0 K' 0) := by
          unfold kT
          rw [y3.2.2.1.2.2.1, if_neg (nI_ne0 y8.1 (by omega)), rem4 (by omega) (by omega), show (n - 2) % 4 = 0 by omega, if_pos (show nI 0 = 0 from rfl), y3.1.1, t6, ob_s, fill_ok s4' (by decide) (-9) g', bnd_s, hca, bnd_s]
        rw [y1, hkT, y2]
        have p2 : (pCar (pB g' (68 - d + 4) 0 4 (-9)) (68 - d) 0 K' 0).2 = h.2 := y3.1.1
        have q5 : ∀ x, (pR (pCar (pB g' (68 - d + 4) 0 4 (-9)) (68 - d) 0 K' 0) 0 4 x).2 0 4 = x := fun x => by rw [pR_2, if_pos ⟨rfl, rfl⟩]
        have q4 : ∀ x y, (pR (pR (pCar (pB g' (68 - d + 4) 0 4 (-9)) (68 - d) 0 K' 0) 0 4 x) 0 5 y).2 0 4 = x := fun x y => by rw [pR_2, if_neg (fun z => absurd z.2 (by decide)), pR_2, if_pos ⟨rfl, rfl⟩]
        have t2 : (pCar (pB g' (68 - d + 4) 0 4 (-9)) (68 - d) 0 K' 0).1 (68 - d) 2 = nI T' := z3.T.1
        simp only [bnd_s, if_true, p2, s4, s5, gO_s, id', i0, ck_t, nm_x, q4, if_neg (show ¬ (1 : Int32) = 0 by decide), z1, z2, pR_1, t2]
        exact ⟨_, _, m2, rfl, rfl, 68 - d, w, C', K', T', 0, 0, z3⟩
