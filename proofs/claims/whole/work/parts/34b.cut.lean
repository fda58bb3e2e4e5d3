theorem smX_b (K x : Nat) : smX K x ≤ 8 * K := smR_b K (fun _ _ => dg_lt (by decide))
def cutL (K k : Nat) (rec : Nat → Int32 → Int32 → Int32 → Hp → Option (Unit × Hp)) (had sum : Int32) (g : Hp) : Option (Unit × Hp) := if nI k < nI K then (F_X4_cutFrom_L79 rec 2 (nI k) had sum FU (0 : Int32) g) else some ((), pC (pI g 2 1 sum) 11 3 (0 : Int32).toNatClampNeg (0 : Int32).toNatClampNeg (4 : Int32).toNatClampNeg)
theorem cut_pre {b : Hp} {K A : Nat} {D : Nat → Nat → Nat} {dp : Nat → Nat} (B : SpB b K A D dp) (rec : Nat → Int32 → Int32 → Int32 → Hp → Option (Unit × Hp)) {n k p : Nat} {g : Hp} {s : Option Nat} (hk : k + n = K) (hg : SpC b g) (hf : fwS2 K g s) (ho : Opt (VA D dp A K) (smX K) (p * 9 ^ n) s) :
    (F_X4_cutFrom_B rec 2 (nI k) (nI (acR D (dg 9 k p) k)) (nI (smR (dg 9 k p) k)) g = some ((), g) ∧ Opt (VA D dp A K) (smX K) ((p + 1) * 9 ^ n) s) ∨
    (F_X4_cutFrom_B rec 2 (nI k) (nI (acR D (dg 9 k p) k)) (nI (smR (dg 9 k p) k)) g = cutL K k rec (nI (acR D (dg 9 k p) k)) (nI (smR (dg 9 k p) k)) g ∧ SubT A (acR D (dg 9 k p) k ||| orT (fun j => D j (dp j)) n k) ∧ ∀ y, s = some y → smR (dg 9 k p) k < smX K y) := by
  obtain ⟨K4, A8, ⟨r0, r2, r3, r4, r5, r6⟩, bK, bA, bD, bW, bB, bM⟩ := B
  have hX : p * 9 ^ n ≤ (p + 1) * 9 ^ n := Nat.mul_le_mul_right _ (by omega)
  have hdig : ∀ y, p * 9 ^ n ≤ y → y < (p + 1) * 9 ^ n → ∀ j, j < k → dg 9 K y j = dg 9 k p j := by
    intro y h1 h2 j hj
    rw [← hk]
    exact dg_pre (range_d h1 h2) hj
  have hsum : ∀ y, p * 9 ^ n ≤ y → y < (p + 1) * 9 ^ n → smR (dg 9 k p) k ≤ smX K y := by
    intro y h1 h2
    rw [← smR_c k (hdig y h1 h2)]
    unfold smX
    have := smR_le (ρ := dg 9 K y) k n
    rw [hk] at this
    exact this
  have hsb : smR (dg 9 k p) k ≤ 32 := by
    have := smR_b (ρ := dg 9 k p) k (fun _ _ => dg_lt (by decide))
    omega
  have hsx : ∀ y, smX K y ≤ 32 := fun y => by
    have := smX_b K y
    omega
  have hlt : acR D (dg 9 k p) k < 256 := acR_b (K := k) (fun j hj => bB j (by omega) _) k (Nat.le_refl _)
  have hlt2 : orT (fun j => D j (dp j)) n k < 256 := orT_b (K := K) (fun j hj => bB j hj _) n k (by omega)
  have a10 := aIn_i (sh := shC) (q := 10) (n := 5) (by decide +kernel) (show k < 5 by omega) (by decide)
  have hac : aCp shC 11 0 3 0 4 = true := by decide +kernel
  have q2 : ∀ v, (pI g 2 1 v).2 = b.2 := fun v => hg.1
  have w10 : g.1 10 k = nI (orT (fun j => D j (dp j)) n k) := by
    rw [hg.2.1 10 (by decide) (by decide) (by decide), bW k (by omega), show K - k = n by omega]
  have h17 : F_X4_cutFrom_J17 rec 2 (nI k) (nI (acR D (dg 9 k p) k)) (nI (smR (dg 9 k p) k)) g = if nI A &&& (nI (acR D (dg 9 k p) k ||| orT (fun j => D j (dp j)) n k) ^^^ (-1 : Int32)) = 0 then cutL K k rec (nI (acR D (dg 9 k p) k)) (nI (smR (dg 9 k p) k)) g else some ((), g) := by
    unfold F_X4_cutFrom_J17 F_X4_cutFrom_J22 cutL
    simp only [if_neg (show ¬ (1 : Int32) = 0 by decide), hg.1, r4, ob_s, a10, ck_t, cl_i (show k < 2 ^ 31 by omega), w10, or_nI, hg.2.2 7 (by decide), hg.2.2 6 (by decide), bA, bK, nm_x, q2, r0, r5, hac]
  have hor : acR D (dg 9 k p) k ||| orT (fun j => D j (dp j)) n k < 256 := Nat.or_lt_two_pow (n := 8) hlt hlt2
  have part2 : ∀ Q : Option (Unit × Hp), Q = F_X4_cutFrom_J17 rec 2 (nI k) (nI (acR D (dg 9 k p) k)) (nI (smR (dg 9 k p) k)) g → (∀ y, s = some y → smR (dg 9 k p) k < smX K y) → (Q = some ((), g) ∧ Opt (VA D dp A K) (smX K) ((p + 1) * 9 ^ n) s) ∨ (Q = cutL K k rec (nI (acR D (dg 9 k p) k)) (nI (smR (dg 9 k p) k)) g ∧ SubT A (acR D (dg 9 k p) k ||| orT (fun j => D j (dp j)) n k) ∧ ∀ y, s = some y → smR (dg 9 k p) k < smX K y) := by
    intro Q he hs
    rw [he, h17]
    by_cases c : nI A &&& (nI (acR D (dg 9 k p) k ||| orT (fun j => D j (dp j)) n k) ^^^ (-1 : Int32)) = 0
    · rw [if_pos c]
      exact Or.inr ⟨rfl, (sub_x A8 hor).mp c, hs⟩
    · rw [if_neg c]
      refine Or.inl ⟨rfl, opt_skip ho hX (fun y h1 h2 hv => ?_)⟩
      exfalso
      apply c
      rw [sub_x A8 hor]
      intro i hi
      have h3 := hv.2 i hi
      rw [acR_t] at h3
      obtain ⟨j, hj, hj2⟩ := h3
      rw [Nat.testBit_or, Bool.or_eq_true]
      by_cases q : j < k
      · left
        rw [acR_t]
        exact ⟨j, q, by rw [← hdig y h1 h2 j q]; exact hj2⟩
      · right
        rw [orT_t]
        exact ⟨j, by omega, by omega, bM j hj _ _ (hv.1 j hj) i hj2⟩
  cases s with
  | none =>
    have hf' : g.1 2 1 = -9 := hf
    exact part2 _ (by unfold F_X4_cutFrom_B; rw [if_pos hf']) (fun y hy => by cases hy)
  | some x =>
    have hf' : g.1 2 1 = nI (smX K x) := hf.1
    have hx := hsx x
    by_cases c : smX K x ≤ smR (dg 9 k p) k
    · refine Or.inl ⟨?_, opt_skip ho hX (fun y h1 h2 hv => ⟨x, rfl, Nat.le_trans c (hsum y h1 h2)⟩)⟩
      unfold F_X4_cutFrom_B F_X4_cutFrom_J22
      rw [hf', if_neg (nIne9 (show smX K x < 2 ^ 31 by omega)), if_pos (nI_le c (by omega)), if_pos rfl]
    · exact part2 _ (by
        unfold F_X4_cutFrom_B
        rw [hf', if_neg (nIne9 (show smX K x < 2 ^ 31 by omega)), if_neg (nI_ge (show smR (dg 9 k p) k < smX K x by omega) (by omega))]) (fun y hy => by cases hy; omega)
theorem cut_R {b : Hp} {K A : Nat} {D : Nat → Nat → Nat} {dp : Nat → Nat} (B : SpB b K A D dp) : ∀ (n k p N : Nat) (g : Hp) (s : Option Nat), k + n = K → n + 1 ≤ N → SpC b g → (∀ j, j < k → g.1 11 j = nI (dg 9 k p j)) → (∀ j, j < k → dg 9 k p j ≤ dp j) → fwS2 K g s → Opt (VA D dp A K) (smX K) (p * 9 ^ n) s →
    ∃ g' s', F_X4_cutFrom N 2 (nI k) (nI (acR D (dg 9 k p) k)) (nI (smR (dg 9 k p) k)) g = some ((), g') ∧ SpC b g' ∧ (∀ j, j < k → g'.1 11 j = g.1 11 j) ∧ fwS2 K g' s' ∧ Opt (VA D dp A K) (smX K) ((p + 1) * 9 ^ n) s' := by
  have B' := B
  obtain ⟨K4, A8, ⟨r0, r2, r3, r4, r5, r6⟩, bK, bA, bD, bW, bB, bM⟩ := B
  intro n
  induction n with
  | zero =>
    intro k p N g s hk hN hg hrow hdp hf ho
    obtain ⟨N, rfl⟩ : ∃ M, N = M + 1 := ⟨N - 1, by omega⟩
    rw [F_X4_cutFrom]
    rcases cut_pre B' (F_X4_cutFrom N) hk hg hf ho with ⟨e1, e2⟩ | ⟨e1, e2, e3⟩
    · exact ⟨g, s, e1, hg, fun _ _ => rfl, hf, e2⟩
    · have hk' : k = K := by omega
      subst hk'
      rw [e1]
      unfold cutL
      rw [if_neg (nI_nlt (Nat.le_refl _) (by omega))]
      rw [Nat.pow_zero, Nat.mul_one] at ho ⊢
      have hsx := smX_b k p
      refine ⟨_, some p, rfl, ⟨hg.1, ?_, ?_⟩, ?_, ⟨?_, ?_⟩, opt_new ho ⟨hdp, fun i hi => ?_⟩ e3⟩
      · intro q q1 q2 q3
        rw [← hg.2.1 q q1 q2 q3]
        funext j
        rw [pC_row q2, pI_1, if_neg (fun z => q1 z.1)]
      · intro j hj
        rw [pC_row (by decide), pI_1, if_neg (fun z => hj z.2), hg.2.2 j hj]
      · intro j hj
        rw [pC_row (by decide), pI_1, if_neg (fun z => absurd z.1 (by decide))]
      · rw [pC_row (by decide), pI_1, if_pos (by decide)]
        rfl
      · intro j hj
        rw [cp3 (by omega), pI_1, if_neg (fun z => absurd z.1 (by decide))]
        exact hrow j hj
      · have := e2 i hi
        rw [Nat.testBit_or, orT, Nat.zero_testBit, Bool.or_false] at this
        exact this
  | succ n ih =>
    intro k p N g s hk hN hg hrow hdp hf ho
    obtain ⟨N, rfl⟩ : ∃ M, N = M + 1 := ⟨N - 1, by omega⟩
    rw [F_X4_cutFrom]
    rcases cut_pre B' (F_X4_cutFrom N) hk hg hf ho with ⟨e1, e2⟩ | ⟨e1, -, -⟩
    · exact ⟨g, s, e1, hg, fun _ _ => rfl, hf, e2⟩
    rw [e1]
    unfold cutL
    have hkK : k < K := by omega
    rw [if_pos (nI_lt hkK (by omega))]
    obtain ⟨d8, d9, dD⟩ := bD k hkK
    have a9 := aIn_i (sh := shC) (q := 9) (n := 4) (by decide +kernel) (show k < 4 by omega) (by decide)
    have a11 := aIn_i (sh := shC) (q := 11) (n := 4) (by decide +kernel) (show k < 4 by omega) (by decide)
    have a4 := aRn_i (kd := 3) (sh := shC) (q := 4) (n := 4) (by decide +kernel) (show k < 4 by omega) (by decide)
    have loop : ∀ (M e : Nat) (g1 : Hp) (s1 : Option Nat), e ≤ dp k + 1 → dp k + 2 ≤ e + M → SpC b g1 → (∀ j, j < k → g1.1 11 j = nI (dg 9 k p j)) → fwS2 K g1 s1 → Opt (VA D dp A K) (smX K) ((p * 9 + e) * 9 ^ n) s1 →
        ∃ g' s', F_X4_cutFrom_L79 (F_X4_cutFrom N) 2 (nI k) (nI (acR D (dg 9 k p) k)) (nI (smR (dg 9 k p) k)) M (nI e) g1 = some ((), g') ∧ SpC b g' ∧ (∀ j, j < k → g'.1 11 j = g1.1 11 j) ∧ fwS2 K g' s' ∧ Opt (VA D dp A K) (smX K) ((p * 9 + (dp k + 1)) * 9 ^ n) s' := by
      intro M
      induction M with
      | zero => intro e g1 s1 h1 h2; omega
      | succ M ihM =>
        intro e g1 s1 h1 h2 hg1 hrow1 hf1 ho1
        have g9 : g1.1 9 k = nI (dp k) := by rw [hg1.2.1 9 (by decide) (by decide) (by decide)]; exact d9
        have g5 : ∀ x, x ≤ dp k → g1.1 (5 + k) x = nI (D k x) := fun x hx => by
          rw [hg1.2.1 (5 + k) (by omega) (by omega) (by omega)]
          exact dD x hx
        rw [F_X4_cutFrom_L79]
        simp only [hg1.1, r3, ob_s, a9, ck_t, cl_i (show k < 2 ^ 31 by omega), g9]
        by_cases ee : e = dp k + 1
        · subst ee
          rw [if_pos (nI_lt (by omega) (by omega))]
          exact ⟨g1, s1, rfl, hg1, fun _ _ => rfl, hf1, ho1⟩
        · have he : e ≤ dp k := by omega
          rw [if_neg (nI_nlt he (by omega))]
          have a5 := aIn_i (s5 k (by omega)) (show e < 9 by omega) (by decide)
          have hJ : ∃ g' s', F_X4_cutFrom_J118 (F_X4_cutFrom N) (F_X4_cutFrom_L79 (F_X4_cutFrom N) 2 (nI k) (nI (acR D (dg 9 k p) k)) (nI (smR (dg 9 k p) k)) M) 2 (nI k) (nI (acR D (dg 9 k p) k)) (nI (smR (dg 9 k p) k)) (nI e) g1 = some ((), g') ∧ SpC b g' ∧ (∀ j, j < k → g'.1 11 j = g1.1 11 j) ∧ fwS2 K g' s' ∧ Opt (VA D dp A K) (smX K) ((p * 9 + (dp k + 1)) * 9 ^ n) s' := by
            unfold F_X4_cutFrom_J118
            have q2 : ∀ v, (pI g1 11 k v).2 = b.2 := fun v => hg1.1
            have hv : (pI g1 11 k (nI e)).1 (5 + k) e = nI (D k e) := by
              rw [pI_1, if_neg (by omega)]
              exact g5 e he
            simp only [hg1.1, r5, r2, r6 k (by omega), ob_s, a11, a4, a5, ck_t, nm_x, q2, cl_i (show k < 2 ^ 31 by omega), cl_i (show e < 2 ^ 31 by omega), hv, or_nI, nI_add, nI_1]
            have h9 : e < 9 := by omega
            have hacc : acR D (dg 9 k p) k ||| D k e = acR D (dg 9 (k + 1) (p * 9 + e)) (k + 1) := by
              rw [acR, dg_last h9, acR_c k (fun j hj => dg_init h9 hj)]
            have hsum : smR (dg 9 k p) k + e = smR (dg 9 (k + 1) (p * 9 + e)) (k + 1) := by
              rw [smR, dg_last h9, smR_c k (fun j hj => dg_init h9 hj)]
            rw [hacc, hsum]
            obtain ⟨g2, s2, x1, x2, x3, x4, x5⟩ := ih (k + 1) (p * 9 + e) N (pI g1 11 k (nI e)) s1 (by omega) (by omega) ⟨hg1.1, fun q q1 q2 q3 => by
              rw [← hg1.2.1 q q1 q2 q3]
              funext j
              rw [pI_1, if_neg (fun z => q3 z.1)], fun j hj => by
              rw [pI_1, if_neg (fun z => absurd z.1 (by decide)), hg1.2.2 j hj]⟩ (fun j hj => by
              rw [pI_1]
              by_cases e2 : j = k
              · rw [if_pos ⟨rfl, e2⟩, e2, dg_last h9]
              · rw [if_neg (fun z => e2 z.2), dg_init h9 (by omega)]
                exact hrow1 j (by omega)) (fun j hj => by
              by_cases e2 : j = k
              · rw [e2, dg_last h9]
                exact he
              · rw [dg_init h9 (by omega)]
                exact hdp j (by omega)) (by
              cases s1 with
              | none =>
                have : g1.1 2 1 = -9 := hf1
                show (pI g1 11 k (nI e)).1 2 1 = -9
                rw [pI_1, if_neg (fun z => absurd z.1 (by decide))]
                exact this
              | some x =>
                refine ⟨?_, fun j hj => ?_⟩
                · rw [pI_1, if_neg (fun z => absurd z.1 (by decide))]
                  exact hf1.1
                · rw [pI_1, if_neg (fun z => absurd z.1 (by decide))]
                  exact hf1.2 j hj) ho1
            rw [x1, bnd_s]
            have y11 : ∀ j, j < k → g2.1 11 j = g1.1 11 j := fun j hj => by
              rw [x3 j (by omega), pI_1, if_neg (fun z => absurd z.2 (by omega))]
            obtain ⟨g3, s3, z1, z2, z3, z4, z5⟩ := ihM (e + 1) g2 s2 (by omega) (by omega) x2 (fun j hj => by rw [y11 j hj]; exact hrow1 j hj) x4 (by rw [show p * 9 + (e + 1) = p * 9 + e + 1 by omega]; exact x5)
            exact ⟨g3, s3, z1, z2, fun j hj => by rw [z3 j hj, y11 j hj], z4, z5⟩
          by_cases e0 : e = 0
          · subst e0
            rw [if_pos (show nI 0 = 0 from rfl)]
            exact hJ
          · obtain ⟨e', rfl⟩ : ∃ e', e = e' + 1 := ⟨e - 1, by omega⟩
            rw [if_neg (nI_ne0 (by omega) (by omega))]
            have a5' := aIn_i (s5 k (by omega)) (show e' < 9 by omega) (by decide)
            simp only [r2, r6 k (by omega), ob_s, a4, a5, a5', ck_t, nm_x, pm_s, cl_i (show e' < 2 ^ 31 by omega), cl_i (show e' + 1 < 2 ^ 31 by omega), g5 (e' + 1) he, g5 e' (by omega), nI_1]
            by_cases c : D k (e' + 1) = D k e'
            · rw [if_pos (by rw [c])]
              refine ihM (e' + 1 + 1) g1 s1 (by omega) (by omega) hg1 hrow1 hf1 (opt_skip ho1 (Nat.mul_le_mul_right _ (by omega)) (fun y h3 h4 hv => ?_))
              have hy : y / 9 ^ n = p * 9 + (e' + 1) := range_d h3 (by rw [show p * 9 + (e' + 1) + 1 = p * 9 + (e' + 1 + 1) by omega]; exact h4)
              have hpos : 0 < 9 ^ n := Nat.pow_pos (by decide)
              have hle : 9 ^ n ≤ y := by
                have : 1 * 9 ^ n ≤ (p * 9 + (e' + 1)) * 9 ^ n := Nat.mul_le_mul_right _ (by omega)
                omega
              obtain ⟨z, rfl⟩ : ∃ z, y = z + 9 ^ n := ⟨y - 9 ^ n, by omega⟩
              have hz : z / 9 ^ n = p * 9 + e' := by
                rw [Nat.add_div_right _ hpos] at hy
                omega
              have hK' : K = (k + 1) + n := by omega
              have hlow : ∀ j, j < k → dg 9 K z j = dg 9 K (z + 9 ^ n) j := by
                intro j hj
                rw [hK', dg_pre hz (by omega), dg_pre hy (by omega), dg_init (by omega) hj, dg_init (by omega) hj]
              have hz1 : dg 9 K z k = e' := by rw [hK', dg_pre hz (by omega), dg_last (by omega)]
              have hz2 : dg 9 K (z + 9 ^ n) k = e' + 1 := by rw [hK', dg_pre hy (by omega), dg_last (by omega)]
              have hhi : ∀ j, j < K → k < j → dg 9 K z j = dg 9 K (z + 9 ^ n) j := by
                intro j hj hj2
                rw [show K = k + (n + 1) by omega, dg_tail (by decide) hj2 (by omega)]
              have hne : ∀ j, j < K → j ≠ k → dg 9 K z j = dg 9 K (z + 9 ^ n) j := by
                intro j hj hj2
                rcases Nat.lt_or_ge j k with q | q
                · exact hlow j q
                · exact hhi j hj (by omega)
              have hVz : VA D dp A K z := by
                refine ⟨fun j hj => ?_, fun i hi => ?_⟩
                · by_cases q : j = k
                  · rw [q, hz1]
                    omega
                  · rw [hne j hj q]
                    exact hv.1 j hj
                · have := hv.2 i hi
                  rw [acR_t] at this ⊢
                  obtain ⟨j, hj, h5⟩ := this
                  refine ⟨j, hj, ?_⟩
                  by_cases q : j = k
                  · rw [q, hz1, ← c]
                    rw [q, hz2] at h5
                    exact h5
                  · rw [hne j hj q]
                    exact h5
              have hzX : z < (p * 9 + (e' + 1)) * 9 ^ n := by
                rw [show (p * 9 + (e' + 1)) * 9 ^ n = (p * 9 + e' + 1) * 9 ^ n by rw [Nat.add_assoc], ← hz]
                rw [Nat.mul_comm]
                exact Nat.lt_mul_div_succ z hpos
              have hs : smX K z + 1 = smX K (z + 9 ^ n) := smR_dec (k := k) (by rw [hz1, hz2]) K hne hkK
              cases s1 with
              | none => exact absurd hVz (ho1 z hzX)
              | some x =>
                refine ⟨x, rfl, ?_⟩
                have := ho1.2.2.1 z hzX hVz
                omega
            · rw [if_neg (fun z => c ((nI_eq (by have := bB k hkK (e' + 1); omega) (by have := bB k hkK e'; omega)).mp z))]
              exact hJ
    obtain ⟨g', s', y1, y2, y3, y4, y5⟩ := loop FU 0 g s (by omega) (by unfold FU; omega) hg hrow hf (by
      rw [Nat.add_zero, Nat.mul_assoc, ← Nat.pow_succ']
      exact ho)
    rw [nI_0] at y1
    refine ⟨g', s', y1, y2, y3, y4, opt_skip y5 ?_ (fun y h3 h4 hv => ?_)⟩
    · rw [Nat.pow_succ', ← Nat.mul_assoc]
      exact Nat.mul_le_mul_right _ (by omega)
    · exfalso
      have h5 := hv.1 k hkK
      have hK' : K = (k + 1) + n := by omega
      have hpos : 0 < 9 ^ n := Nat.pow_pos (by decide)
      have h6 : p * 9 + (dp k + 1) ≤ y / 9 ^ n := (Nat.le_div_iff_mul_le hpos).mpr h3
      have h7 : y / 9 ^ n < (p + 1) * 9 := (Nat.div_lt_iff_lt_mul hpos).mpr (by rw [Nat.mul_assoc, ← Nat.pow_succ']; exact h4)
      obtain ⟨c, hc⟩ : ∃ c, y / 9 ^ n = p * 9 + c := ⟨y / 9 ^ n - p * 9, by omega⟩
      rw [hK', dg_pre hc (by omega), dg_last (by omega)] at h5
      omega
