theorem cheeses_L {h k : Hp} {e Q p b n C : Nat} (X : Tx h k e Q p b n) (hC : 0 < C ∧ C ≤ 5) (k90 : Hp → Option (Int32 × Hp)) : ∀ (M K : Nat) (g m : Hp), 0 < K → K ≤ 4 → 5 ≤ K + M → DS h k g m e C K 0 K 0 (b + (2 + 4 * K)) → JC g m e C K → 2 + 4 * K ≤ n →
    BF h k e b (CL e Q p n (2 + 4 * K) g) (F_X7_readDairy_L62 k90 0 (nI (b + n)) M m) ∨ ∃ K' g' m', 0 < K' ∧ K' ≤ 4 ∧ CL e Q p n (2 + 4 * K) g = CL e Q p n (2 + 4 * K') g' ∧ F_X7_readDairy_L62 k90 0 (nI (b + n)) M m = k90 m' ∧ DS h k g' m' e C K' 0 K' 0 (b + (2 + 4 * K')) ∧ JC g' m' e C K' ∧ 2 + 4 * K' ≤ n ∧ ¬ (K' < 4 ∧ 2 + 4 * K' < n ∧ g'.1 Q (p + (2 + 4 * K')) = 44) := by
  have X' := X
  obtain ⟨xD, xS, xM, x4, x5, x6, x7, x8⟩ := X
  intro M
  induction M with
  | zero => intro K g m h1 h2 h3; omega
  | succ M ih =>
    intro K g m h1 h2 h3 D J hj
    have hM : RM m := RM_c D.2.1.1 xM
    rw [F_X7_readDairy_L62, D.2.2.2.2.1]
    by_cases c4 : K = 4
    · rw [if_pos (by rw [c4]; decide)]
      exact Or.inr ⟨K, g, m, h1, h2, rfl, rfl, D, J, hj, fun q => absurd q.1 (by omega)⟩
    · have hK : K < 4 := by omega
      rw [if_neg (show ¬ (4 : Int32) ≤ nI K from nI_ge (b := 4) hK (by decide)), sign_x hM D.2.2.2.2.2.2 (by omega) (by omega)]
      by_cases c5 : b + (2 + 4 * K) < b + n ∧ m.1 3 (b + (2 + 4 * K)) = 44
      · have hjn : 2 + 4 * K < n := by omega
        have hz : g.1 Q (p + (2 + 4 * K)) = 44 := by rw [← X'.cell D hjn]; exact c5.2
        have hgo := go_b (T := 0) h2 (by decide) D.2.2.1.2.1 D.2.2.1.2.2.1 (show 2 + 4 * K = 2 + 4 * (K + 0) by omega) (g.1 Q (p + (2 + 4 * K)))
        rw [if_pos ⟨hz, rfl, hK⟩] at hgo
        rw [if_pos c5, bnd_s, if_neg (by decide), CL_go X' hjn hgo, if_neg (by decide)]
        have D1 := (D.gk (K + 1)).at_ (b + (2 + 4 * K) + 1)
        rw [show b + (2 + 4 * K) + 1 = b + (2 + 4 * K + 1) by omega] at D1 ⊢
        have J1 : JC (pI g e 1 (nI (K + 1))) (pI m 0 20 (nI (b + (2 + 4 * K + 1)))) e C K := J.c (fun r _ _ i hi => by rw [pI_1, if_neg (fun z => absurd z.1 (by omega))]) (fun j hj => by rw [pI_1, if_neg (fun z => absurd z.1 (by decide))])
        rcases cheese_unit X' D1 J1 hK hC (by omega) with ⟨pl, g', m', y1, y2, y3⟩ | ⟨g', m', y1, y2, y3, y4, y5⟩
        · left
          rw [y2, bnd_s, if_pos rfl]
          exact ⟨pl, g', m', y1, rfl, y3⟩
        · rw [y1, y2, bnd_s, if_neg (by decide)]
          exact ih (K + 1) g' m' (by omega) (by omega) (by omega) y3 y4 y5
      · rw [if_neg c5, bnd_s, if_pos rfl]
        refine Or.inr ⟨K, g, m, h1, h2, rfl, rfl, D, J, hj, fun q => c5 ⟨by omega, ?_⟩⟩
        rw [X'.cell D q.2.1]
        exact q.2.2
theorem talks_L {h k : Hp} {e Q p b n C K : Nat} (X : Tx h k e Q p b n) (hC : 0 < C ∧ C ≤ 5) (hK0 : 0 < K) (hK : K ≤ 4) (k139 : Hp → Option (Int32 × Hp)) : ∀ (M T : Nat) (g m : Hp), 0 < T → T ≤ 8 → 9 ≤ T + M → DS h k g m e C K T K T (b + (2 + 4 * (K + T))) → JT g m e C T → JC g m e C K → 2 + 4 * (K + T) ≤ n →
    BF h k e b (CL e Q p n (2 + 4 * (K + T)) g) (F_X7_readDairy_L110 k139 0 (nI (b + n)) M m) ∨ ∃ T' g' m', 0 < T' ∧ T' ≤ 8 ∧ CL e Q p n (2 + 4 * (K + T)) g = CL e Q p n (2 + 4 * (K + T')) g' ∧ F_X7_readDairy_L110 k139 0 (nI (b + n)) M m = k139 m' ∧ DS h k g' m' e C K T' K T' (b + (2 + 4 * (K + T'))) ∧ JT g' m' e C T' ∧ JC g' m' e C K ∧ 2 + 4 * (K + T') ≤ n ∧ ¬ (T' < 8 ∧ 2 + 4 * (K + T') < n ∧ g'.1 Q (p + (2 + 4 * (K + T'))) = 59) := by
  have X' := X
  obtain ⟨xD, xS, xM, x4, x5, x6, x7, x8⟩ := X
  intro M
  induction M with
  | zero => intro T g m h1 h2 h3; omega
  | succ M ih =>
    intro T g m h1 h2 h3 D J JK hj
    have hM : RM m := RM_c D.2.1.1 xM
    rw [F_X7_readDairy_L110, D.2.2.2.2.2.1]
    by_cases c4 : T = 8
    · rw [if_pos (by rw [c4]; decide)]
      exact Or.inr ⟨T, g, m, h1, h2, rfl, rfl, D, J, JK, hj, fun q => absurd q.1 (by omega)⟩
    · have hT : T < 8 := by omega
      rw [if_neg (show ¬ (8 : Int32) ≤ nI T from nI_ge (b := 8) hT (by decide)), sign_x hM D.2.2.2.2.2.2 (by omega) (by omega)]
      by_cases c5 : b + (2 + 4 * (K + T)) < b + n ∧ m.1 3 (b + (2 + 4 * (K + T))) = 59
      · have hjn : 2 + 4 * (K + T) < n := by omega
        have hz : g.1 Q (p + (2 + 4 * (K + T))) = 59 := by rw [← X'.cell D hjn]; exact c5.2
        have hgo := go_b hK h2 D.2.2.1.2.1 D.2.2.1.2.2.1 rfl (g.1 Q (p + (2 + 4 * (K + T))))
        rw [if_neg (fun q => absurd q.2.1 (by omega)), if_pos ⟨hz, hK0, hT⟩] at hgo
        rw [if_pos c5, bnd_s, if_neg (by decide), CL_go X' hjn hgo, if_neg (by decide)]
        have D1 := (D.gt (T + 1)).at_ (b + (2 + 4 * (K + T)) + 1)
        rw [show b + (2 + 4 * (K + T)) + 1 = b + (2 + 4 * (K + T) + 1) by omega] at D1 ⊢
        have J1 : JT (pI g e 2 (nI (T + 1))) (pI m 0 20 (nI (b + (2 + 4 * (K + T) + 1)))) e C T := J.c (fun r _ _ i hi => by rw [pI_1, if_neg (fun z => absurd z.1 (by omega))]) (fun j hj => by rw [pI_1, if_neg (fun z => absurd z.1 (by decide))])
        have JK1 : JC (pI g e 2 (nI (T + 1))) (pI m 0 20 (nI (b + (2 + 4 * (K + T) + 1)))) e C K := JK.c (fun r _ _ i hi => by rw [pI_1, if_neg (fun z => absurd z.1 (by omega))]) (fun j hj => by rw [pI_1, if_neg (fun z => absurd z.1 (by decide))])
        rcases talk_unit X' D1 J1 hK hT hC (by omega) JK1 with ⟨pl, g', m', y1, y2, y3⟩ | ⟨g', m', y1, y2, y3, y4, y5, y6⟩
        · left
          rw [y2, bnd_s, if_pos rfl]
          exact ⟨pl, g', m', y1, rfl, y3⟩
        · rw [y1, y2, bnd_s, if_neg (by decide)]
          exact ih (T + 1) g' m' (by omega) (by omega) (by omega) y3 y4 y5 y6
      · rw [if_neg c5, bnd_s, if_pos rfl]
        refine Or.inr ⟨T, g, m, h1, h2, rfl, rfl, D, J, JK, hj, fun q => c5 ⟨by omega, ?_⟩⟩
        rw [X'.cell D q.2.1]
        exact q.2.2
/-- both read the text through -/
def RD (h k : Hp) (e Q p b n : Nat) (c m : Option (Int32 × Hp)) : Prop := ∃ C K T g' m', c = kT e (nI n) g' ∧ m = some (1, m') ∧ DS h k g' m' e C K T K T (b + n) ∧ JC g' m' e C K ∧ JT g' m' e C T ∧ (0 < C ∧ C ≤ 5) ∧ (0 < K ∧ K ≤ 4) ∧ (0 < T ∧ T ≤ 8) ∧ n = 2 + 4 * (K + T)
theorem read_2 {h k : Hp} {e Q p b n C : Nat} (X : Tx h k e Q p b n) (hC : 0 < C ∧ C ≤ 5) {K : Nat} {g m : Hp} (hK0 : 0 < K) (hK : K ≤ 4) (D : DS h k g m e C K 0 K 0 (b + (2 + 4 * K))) (J : JC g m e C K) (hj : 2 + 4 * K ≤ n) (hno : ¬ (K < 4 ∧ 2 + 4 * K < n ∧ g.1 Q (p + (2 + 4 * K)) = 44)) :
    BF h k e b (CL e Q p n (2 + 4 * K) g) (F_X7_readDairy_J90 0 (nI (b + n)) m) ∨ RD h k e Q p b n (CL e Q p n (2 + 4 * K) g) (F_X7_readDairy_J90 0 (nI (b + n)) m) := by
  have X' := X
  obtain ⟨xD, xS, xM, x4, x5, x6, x7, x8⟩ := X
  have hM : RM m := RM_c D.2.1.1 xM
  have hgo := go_b (T := 0) hK (by decide) D.2.2.1.2.1 D.2.2.1.2.2.1 (show 2 + 4 * K = 2 + 4 * (K + 0) by omega) (g.1 Q (p + (2 + 4 * K)))
  unfold F_X7_readDairy_J90
  rw [sign_x hM D.2.2.2.2.2.2 (by omega) (by omega)]
  by_cases c5 : b + (2 + 4 * K) < b + n ∧ m.1 3 (b + (2 + 4 * K)) = 59
  · have hjn : 2 + 4 * K < n := by omega
    have hz : g.1 Q (p + (2 + 4 * K)) = 59 := by rw [← X'.cell D hjn]; exact c5.2
    rw [if_neg (fun q => hno ⟨q.2.2, hjn, q.1⟩), if_pos ⟨hz, hK0, by decide⟩] at hgo
    rw [if_pos c5, bnd_s, if_neg (by decide), CL_go X' hjn hgo, if_neg (by decide)]
    have D1 := (D.gt (0 + 1)).at_ (b + (2 + 4 * K) + 1)
    rw [show b + (2 + 4 * K) + 1 = b + (2 + 4 * (K + 0) + 1) by omega] at D1 ⊢
    rw [show 2 + 4 * K + 1 = 2 + 4 * (K + 0) + 1 by omega]
    have JK1 : JC (pI g e 2 (nI (0 + 1))) (pI m 0 20 (nI (b + (2 + 4 * (K + 0) + 1)))) e C K := J.c (fun r _ _ i hi => by rw [pI_1, if_neg (fun z => absurd z.1 (by omega))]) (fun j hj => by rw [pI_1, if_neg (fun z => absurd z.1 (by decide))])
    rcases talk_unit X' D1 (fun i hi => absurd hi (by omega)) hK (by decide) hC (by omega) JK1 with ⟨pl, g', m', y1, y2, y3⟩ | ⟨g', m', y1, y2, y3, y4, y5, y6⟩
    · left
      rw [y2, bnd_s, if_pos rfl]
      exact ⟨pl, g', m', y1, rfl, y3⟩
    · rw [y1, y2, bnd_s, if_neg (by decide)]
      rcases talks_L X' hC hK0 hK (fun h40 => F_X7_readDairy_J139 0 (nI (b + n)) h40) FU (0 + 1) g' m' (by decide) (by decide) (by unfold FU; omega) y3 y4 y5 y6 with q | ⟨T', g2, m2, t1, t2, t3, t4, t5, t6, t7, t8, t9⟩
      · exact Or.inl q
      · rw [t3, t4]
        unfold F_X7_readDairy_J139
        rw [t5.2.2.2.2.2.2]
        by_cases c6 : 2 + 4 * (K + T') = n
        · right
          rw [if_pos (by rw [c6]), c6, CL_end (by omega)]
          rw [c6] at t5
          exact ⟨C, K, T', g2, m2, rfl, rfl, t5, t7, t6, hC, ⟨hK0, hK⟩, ⟨t1, t2⟩, c6.symm⟩
        · left
          have hjn2 : 2 + 4 * (K + T') < n := by omega
          rw [if_neg (fun q => c6 (by have := (nI_eq (by omega) (by omega)).mp q; omega))]
          have hgo2 := go_b hK t2 t5.2.2.1.2.1 t5.2.2.1.2.2.1 rfl (g2.1 Q (p + (2 + 4 * (K + T'))))
          rw [if_neg (fun q => absurd q.2.1 (by omega)), if_neg (fun q => t9 ⟨q.2.2, hjn2, q.1⟩)] at hgo2
          rw [CL_go X' hjn2 hgo2, if_pos rfl]
          exact ⟨2 + 4 * (K + T'), g2, m2, rfl, rfl, t5.2.2.2.2.2.2, t5.1, t5.2.1, by omega⟩
  · left
    rw [if_neg c5, bnd_s, if_pos rfl]
    by_cases c6 : 2 + 4 * K = n
    · rw [c6, CL_end (by omega), kT_0 D.2.2.1.2.2.1]
      exact ⟨n, g, m, rfl, rfl, by rw [D.2.2.2.2.2.2, c6], D.1, D.2.1, by omega⟩
    · have hjn : 2 + 4 * K < n := by omega
      have hz : ¬ g.1 Q (p + (2 + 4 * K)) = 59 := fun q => c5 ⟨by omega, by rw [X'.cell D hjn]; exact q⟩
      rw [if_neg (fun q => hno ⟨q.2.2, hjn, q.1⟩), if_neg (fun q => hz q.1)] at hgo
      rw [CL_go X' hjn hgo, if_pos rfl]
      exact ⟨2 + 4 * K, g, m, rfl, rfl, D.2.2.2.2.2.2, D.1, D.2.1, by omega⟩
theorem read_x {h k g m : Hp} {e Q p b n : Nat} (X : Tx h k e Q p b n) (Fg : FrC h g e) (Fm : FrM k m) (g1 : g.1 e 1 = 0) (g2 : g.1 e 2 = 0) (g3 : g.1 (e + 8) 3 = 0) (g4 : g.1 (e + 12) 3 = 0) (ha : m.1 0 20 = nI b) :
    BF h k e b (CL e Q p n 0 g) (F_X7_readDairy 0 (nI (b + n)) m) ∨ RD h k e Q p b n (CL e Q p n 0 g) (F_X7_readDairy 0 (nI (b + n)) m) := by
  have X' := X
  obtain ⟨xD, xS, xM, x4, x5, x6, x7, x8⟩ := X
  unfold F_X7_readDairy
  rw [nm_x, nm_x]
  have F0 : FrM k (pI (pI m 0 22 0) 0 23 0) := (Fm.p0 (by decide)).p0 (by decide)
  have v20 : (pI (pI m 0 22 0) 0 23 0).1 0 20 = nI b := by rw [pI_1, if_neg (by decide), pI_1, if_neg (by decide)]; exact ha
  have v22 : (pI (pI m 0 22 0) 0 23 0).1 0 22 = 0 := by rw [pI_1, if_neg (by decide), pI_1, if_pos (by decide)]
  have v23 : (pI (pI m 0 22 0) 0 23 0).1 0 23 = 0 := by rw [pI_1, if_pos (by decide)]
  generalize pI (pI m 0 22 0) 0 23 0 = m0 at F0 v20 v22 v23
  have hM0 : RM m0 := RM_c F0.1 xM
  rw [sign_x hM0 v20 (by omega) (by omega)]
  have cell : ∀ j, j < n → m0.1 3 (b + j) = g.1 Q (p + j) := fun j hj => by
    rw [F0.2.1 3 (by decide) (by decide) (by decide), x8 j hj, Fg.2 Q x4]
  by_cases n0 : n = 0
  · left
    subst n0
    rw [if_neg (fun q => absurd q.1 (by omega)), bnd_s, if_pos rfl, CL_end (by omega), kT_0 g2]
    exact ⟨0, g, m0, rfl, rfl, v20, Fg, F0, by omega⟩
  have hn0 : 0 < n := by omega
  have hgo0 : F_X0_goesOn e (nI 0) (g.1 Q (p + 0)) g = some (if g.1 Q (p + 0) = 113 then 1 else 0, g) := by
    unfold F_X0_goesOn
    rw [if_pos (show nI 0 = 0 from rfl)]
    split <;> rfl
  rw [CL_go X' hn0 hgo0]
  have c0 := cell 0 hn0
  rw [Nat.add_zero] at c0
  by_cases c1 : g.1 Q (p + 0) = 113
  · rw [if_pos c1, if_neg (by decide), if_pos ⟨by omega, c0.trans c1⟩, bnd_s, if_neg (by decide)]
    have F1 : FrM k (pI m0 0 20 (nI (b + 1))) := F0.p0 (by decide)
    have w20 : (pI m0 0 20 (nI (b + 1))).1 0 20 = nI (b + 1) := by rw [pI_1, if_pos (by decide)]
    have w22 : (pI m0 0 20 (nI (b + 1))).1 0 22 = 0 := by rw [pI_1, if_neg (by decide)]; exact v22
    have w23 : (pI m0 0 20 (nI (b + 1))).1 0 23 = 0 := by rw [pI_1, if_neg (by decide)]; exact v23
    generalize pI m0 0 20 (nI (b + 1)) = m1 at F1 w20 w22 w23
    have hM1 : RM m1 := RM_c F1.1 xM
    rw [digit_x hM1 w20 (by omega) (by omega)]
    have cell1 : ∀ j, j < n → m1.1 3 (b + j) = g.1 Q (p + j) := fun j hj => by
      rw [F1.2.1 3 (by decide) (by decide) (by decide), x8 j hj, Fg.2 Q x4]
    by_cases n1 : n = 1
    · left
      subst n1
      rw [if_neg (fun q => absurd q.1 (by omega)), bnd_s, nm_x]
      have u21 : (pI m1 0 21 (-9)).1 0 21 = -9 := by rw [pI_1, if_pos (by decide)]
      rw [u21, if_pos rfl, CL_end (by omega), kT_0 g2]
      exact ⟨1, g, _, rfl, rfl, by rw [pI_1, if_neg (by decide)]; exact w20, Fg, F1.p0 (by decide), by omega⟩
    have hn1 : 1 < n := by omega
    rw [cell1 1 hn1]
    have hgo1 : ∀ z, F_X0_goesOn e (nI (0 + 1)) z g = some (dgV z 1 5, pI g e 0 (z - 48)) := by
      intro z
      unfold F_X0_goesOn
      rw [if_neg (show ¬ nI (0 + 1) = 0 by decide), if_pos (show nI (0 + 1) = 1 from rfl), nm_x, isDigit_x, bnd_s, isB01 (dgV_01 _ _ _), ck_t]
    rw [CL_go X' (show 0 + 1 < n from hn1) (hgo1 _)]
    rw [show p + (0 + 1) = p + 1 from rfl]
    generalize g.1 Q (p + 1) = z
    by_cases c2 : dgV z 1 5 = 0
    · left
      rw [if_pos c2, if_neg (show ¬ (b + 1 < b + n ∧ ¬ dgV z 1 5 = 0) from fun q => q.2 c2), bnd_s, nm_x]
      have u21 : (pI m1 0 21 (-9)).1 0 21 = -9 := by rw [pI_1, if_pos (by decide)]
      rw [u21, if_pos rfl]
      exact ⟨0 + 1, _, _, rfl, rfl, by rw [pI_1, if_neg (by decide)]; exact w20, Fg.p (by omega), F1.p0 (by decide), by omega⟩
    · rw [if_neg c2, if_pos (show b + 1 < b + n ∧ ¬ dgV z 1 5 = 0 from ⟨by omega, c2⟩), bnd_s, nm_x]
      obtain ⟨C, hc1, hc2, ec⟩ := dg_in (lo := 1) (hi := 5) (by decide) (by decide) c2
      rw [ec]
      have u21 : (pI (pI m1 0 20 (nI (b + 1 + 1))) 0 21 (nI C)).1 0 21 = nI C := by rw [pI_1, if_pos (by decide)]
      rw [u21, if_neg (nIne9 (by omega))]
      have D2 : DS h k (pI g e 0 (nI C)) (pI (pI m1 0 20 (nI (b + 1 + 1))) 0 21 (nI C)) e C 0 0 0 0 (b + (2 + 4 * 0)) := by
        refine ⟨Fg.p (by omega), (F1.p0 (by decide)).p0 (by decide), ⟨?_, ?_, ?_, ?_, ?_⟩, u21, ?_, ?_, ?_⟩
        · rw [pI_1, if_pos ⟨rfl, rfl⟩]
        · rw [pI_1, if_neg (fun z => absurd z.2 (by decide))]; exact g1
        · rw [pI_1, if_neg (fun z => absurd z.2 (by decide))]; exact g2
        · rw [pI_1, if_neg (fun z => absurd z.2 (by decide))]; exact g3
        · rw [pI_1, if_neg (fun z => absurd z.2 (by decide))]; exact g4
        · rw [pI_1, if_neg (by decide), pI_1, if_neg (by decide)]; exact w22
        · rw [pI_1, if_neg (by decide), pI_1, if_neg (by decide)]; exact w23
        · rw [pI_1, if_neg (by decide), pI_1, if_pos (by decide)]
      generalize pI g e 0 (nI C) = g' at D2
      generalize pI (pI m1 0 20 (nI (b + 1 + 1))) 0 21 (nI C) = m2 at D2
      rw [show 0 + 1 + 1 = 2 + 4 * 0 from rfl]
      have hM2 : RM m2 := RM_c D2.2.1.1 xM
      have hC : 0 < C ∧ C ≤ 5 := ⟨by omega, hc2⟩
      rw [sign_x hM2 D2.2.2.2.2.2.2 (by omega) (by omega)]
      have hgo := go_b (K := 0) (T := 0) (by decide) (by decide) D2.2.2.1.2.1 D2.2.2.1.2.2.1 (show 2 + 4 * 0 = 2 + 4 * (0 + 0) from rfl) (g'.1 Q (p + (2 + 4 * 0)))
      by_cases c5 : b + (2 + 4 * 0) < b + n ∧ m2.1 3 (b + (2 + 4 * 0)) = 44
      · have hjn : 2 + 4 * 0 < n := by omega
        have hz : g'.1 Q (p + (2 + 4 * 0)) = 44 := by rw [← X'.cell D2 hjn]; exact c5.2
        rw [if_pos ⟨hz, rfl, by decide⟩] at hgo
        rw [if_pos c5, bnd_s, if_neg (by decide), CL_go X' hjn hgo, if_neg (by decide)]
        have D3 := (D2.gk (0 + 1)).at_ (b + (2 + 4 * 0) + 1)
        rcases cheese_unit X' D3 (fun i hi => absurd hi (by omega)) (by decide) hC (by omega) with ⟨pl, g9, m9, y1, y2, y3⟩ | ⟨g9, m9, y1, y2, y3, y4, y5⟩
        · left
          refine ⟨pl, g9, m9, y1, ?_, y3⟩
          rw [show b + (2 + 4 * 0) + 1 = b + (2 + 4 * 0 + 1) from rfl] at *
          rw [y2, bnd_s, if_pos rfl]
        · rw [show b + (2 + 4 * 0) + 1 = b + (2 + 4 * 0 + 1) from rfl] at *
          rw [y1, y2, bnd_s, if_neg (by decide)]
          rcases cheeses_L X' hC (fun h22 => F_X7_readDairy_J90 0 (nI (b + n)) h22) FU (0 + 1) g9 m9 (by decide) (by decide) (by unfold FU; omega) y3 y4 y5 with q | ⟨K', g5, m5, t1, t2, t3, t4, t5, t6, t7, t8⟩
          · exact Or.inl q
          · rw [t3, t4]
            exact read_2 X' hC t1 t2 t5 t6 t7 t8
      · left
        rw [if_neg c5, bnd_s, if_pos rfl]
        by_cases c6 : 2 + 4 * 0 = n
        · rw [c6, CL_end (by omega), kT_0 D2.2.2.1.2.2.1]
          exact ⟨n, g', m2, rfl, rfl, by rw [D2.2.2.2.2.2.2, c6], D2.1, D2.2.1, by omega⟩
        · have hjn : 2 + 4 * 0 < n := by omega
          have hz : ¬ g'.1 Q (p + (2 + 4 * 0)) = 44 := fun q => c5 ⟨by omega, by rw [X'.cell D2 hjn]; exact q⟩
          rw [if_neg (fun q => hz q.1), if_neg (fun q => absurd q.2.1 (by decide))] at hgo
          rw [CL_go X' hjn hgo, if_pos rfl]
          exact ⟨2 + 4 * 0, g', m2, rfl, rfl, D2.2.2.2.2.2.2, D2.1, D2.2.1, by omega⟩
  · left
    rw [if_neg c1, if_pos rfl, if_neg (fun q => c1 (c0.symm.trans q.2)), bnd_s, if_pos rfl]
    exact ⟨0, g, m0, rfl, rfl, v20, Fg, F0, by omega⟩
