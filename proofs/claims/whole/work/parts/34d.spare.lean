/-! the reference tries all rows of depths -/
theorem bit_of {x : Nat} (h : x ≠ 0) : ∃ i, x.testBit i = true := by
  apply Classical.byContradiction
  intro hn
  apply h
  apply Nat.eq_of_testBit_eq
  intro i
  rw [Nat.zero_testBit]
  cases q : x.testBit i with
  | false => rfl
  | true => exact absurd ⟨i, q⟩ hn
theorem dp_le {h : Hp} {d T B i : Nat} : dpN h d T B i ≤ Ln h d T i := by
  have := (dpF_p (ok := okN h d T B i) (Ln h d T i) 0).2.1
  unfold dpN
  omega
theorem dp_ok {h : Hp} {d T B i e : Nat} (he : e ≤ dpN h d T B i) : Dn h d T i e &&& B = 0 := by
  by_cases q : e = 0
  · rw [q, Dn_0, Nat.zero_and]
  · exact of_decide_eq_true ((dpF_p (ok := okN h d T B i) (Ln h d T i) 0).2.2.1 e (by omega) he)
theorem va_iff {h k : Hp} {d w C K T M R : Nat} (I : In0 h k d w C K T M R) {A B x : Nat} : VA (Dn h d T) (dpN h d T B) A K x ↔ (∀ j, j < K → dg 9 K x j ≤ Ln h d T j) ∧ SubT A (acR (Dn h d T) (dg 9 K x) K) ∧ B &&& acR (Dn h d T) (dg 9 K x) K = 0 := by
  constructor
  · rintro ⟨h1, h2⟩
    refine ⟨fun j hj => Nat.le_trans (h1 j hj) dp_le, h2, ?_⟩
    apply Classical.byContradiction
    intro hn
    obtain ⟨v, hv⟩ := bit_of hn
    rw [Nat.testBit_and, Bool.and_eq_true, acR_t] at hv
    obtain ⟨hb, j, hj, hd⟩ := hv
    have := dp_ok (h1 j hj)
    have h3 : (Dn h d T j (dg 9 K x j) &&& B).testBit v = true := by rw [Nat.testBit_and, hd, hb]; rfl
    rw [this, Nat.zero_testBit] at h3
    cases h3
  · rintro ⟨h1, h2, h3⟩
    refine ⟨fun j hj => ?_, h2⟩
    apply Classical.byContradiction
    intro hn
    have hlt : dpN h d T B j < dg 9 K x j := by omega
    have hL := h1 j hj
    rcases (dpF_p (ok := okN h d T B j) (Ln h d T j) 0).2.2.2 with q | q
    · unfold dpN at hlt
      omega
    · have q2 : Dn h d T j (dpN h d T B j + 1) &&& B ≠ 0 := of_decide_eq_false q
      obtain ⟨v, hv⟩ := bit_of q2
      rw [Nat.testBit_and, Bool.and_eq_true] at hv
      have h4 := I.dn_m j (show dpN h d T B j + 1 ≤ dg 9 K x j by omega) v hv.1
      have h5 : (B &&& acR (Dn h d T) (dg 9 K x) K).testBit v = true := by
        rw [Nat.testBit_and, hv.2, Bool.true_and, acR_t]
        exact ⟨j, hj, h4⟩
      rw [h3, Nat.zero_testBit] at h5
      cases h5
theorem spared_L {h k : Hp} {d w C K T M R : Nat} (I : In0 h k d w C K T M R) {ρ : Nat → Nat} (hρ : ∀ j, j < K → ρ j < 9 ∧ k.1 16 j = nI (ρ j)) (kk : Int32 → Int32 → Hp → Option (Int32 × Hp)) (a b : Int32) : ∀ (N i : Nat), i ≤ K → K + 1 ≤ i + N →
    ((∃ j, j < K ∧ Ln h d T j < ρ j) ∧ F_X7_sparedBy_L8 kk 0 a b N (nI (smR ρ i)) (nI (acR (Dn h d T) ρ i)) (nI i) k = some (-9, k)) ∨
    ((∀ j, i ≤ j → j < K → ρ j ≤ Ln h d T j) ∧ F_X7_sparedBy_L8 kk 0 a b N (nI (smR ρ i)) (nI (acR (Dn h d T) ρ i)) (nI i) k = kk (nI (smR ρ K)) (nI (acR (Dn h d T) ρ K)) k) := by
  have hK := I.K.2.2
  have hM := I.2.2.2.1
  unfold RM at hM
  intro N
  induction N with
  | zero => intro i h1 h2; omega
  | succ N ih =>
    intro i h1 h2
    rw [F_X7_sparedBy_L8, I.K.2.1]
    by_cases e : i = K
    · subst e
      rw [if_pos (Int32.le_refl _)]
      exact Or.inr ⟨fun j h3 h4 => absurd h3 (by omega), rfl⟩
    · have hi : i < K := by omega
      obtain ⟨g1, g2, -, g4⟩ := I.hn hi
      have a16 := aIn_i (sh := shM) (q := 16) (n := 4) (by decide +kernel) (show i < 4 by omega) (by decide)
      have hL := I.ln i
      obtain ⟨hr, hr2⟩ := hρ i hi
      have hw := (I.down hi (l := ρ i) (by omega)).2
      rw [(I.dn i (ρ i)).1] at hw
      have hsz := size_x (k := k) g1 I.T.2.2
      rw [show (lys (Hn h d T i) T).length = Ln h d T i from rfl] at hsz
      rw [if_neg (nI_ge hi (by omega)), g4, bnd_s]
      simp only [hM, ob_s, a16, ck_t, hsz, bnd_s, cl_i (show i < 2 ^ 31 by omega), hr2, hw, nm_x, nI_1, or_nI, nI_add]
      by_cases c : ρ i ≤ Ln h d T i
      · rw [if_pos (nI_le c (by omega))]
        rcases ih (i + 1) (by omega) (by omega) with ⟨x1, x2⟩ | ⟨x1, x2⟩
        · exact Or.inl ⟨x1, x2⟩
        · refine Or.inr ⟨fun j h3 h4 => ?_, x2⟩
          by_cases q : j = i
          · rw [q]
            exact c
          · exact x1 j (by omega) h4
      · rw [if_neg (nI_ge (show Ln h d T i < ρ i by omega) (by omega))]
        exact Or.inl ⟨⟨i, hi, by omega⟩, rfl⟩
theorem spared_x {h k : Hp} {d w C K T M R : Nat} (I : In0 h k d w C K T M R) {A B x : Nat} (hA : A < 256) (hB : B < 256) (hρ : ∀ j, j < K → k.1 16 j = nI (dg 9 K x j)) : (VA (Dn h d T) (dpN h d T B) A K x ∧ F_X7_sparedBy 0 (nI A) (nI B) k = some (nI (smX K x), k)) ∨ (¬ VA (Dn h d T) (dpN h d T B) A K x ∧ F_X7_sparedBy 0 (nI A) (nI B) k = some (-9, k)) := by
  have hK := I.K.2.2
  have h1 := spared_L I (ρ := dg 9 K x) (fun j hj => ⟨dg_lt (by decide), hρ j hj⟩) (fun w22 w23 h24 => if (nI A &&& (w23 ^^^ (-1 : Int32))) = (0 : Int32) then (if (nI B &&& w23) = (0 : Int32) then (some (w22, h24)) else (some ((-9 : Int32), h24))) else (some ((-9 : Int32), h24))) (nI A) (nI B) FU 0 (by omega) (by unfold FU; omega)
  rw [nI_0, show nI (smR (dg 9 K x) 0) = 0 from rfl, show nI (acR (Dn h d T) (dg 9 K x) 0) = 0 from rfl] at h1
  have hlt : acR (Dn h d T) (dg 9 K x) K < 256 := acR_b (K := K) (fun j hj => (I.dn j _).2) K (Nat.le_refl _)
  have hand : B &&& acR (Dn h d T) (dg 9 K x) K < 256 := Nat.lt_of_le_of_lt Nat.and_le_left hB
  unfold F_X7_sparedBy
  rcases h1 with ⟨⟨j, hj, hj2⟩, x2⟩ | ⟨x1, x2⟩
  · rw [x2]
    refine Or.inr ⟨fun hv => ?_, rfl⟩
    have := ((va_iff I).mp hv).1 j hj
    omega
  · rw [x2]
    by_cases c : nI A &&& (nI (acR (Dn h d T) (dg 9 K x) K) ^^^ (-1 : Int32)) = 0
    · rw [if_pos c, and_nI]
      by_cases c2 : B &&& acR (Dn h d T) (dg 9 K x) K = 0
      · rw [c2, if_pos (show nI 0 = 0 from rfl)]
        exact Or.inl ⟨(va_iff I).mpr ⟨fun j hj => x1 j (by omega) hj, (sub_x hA hlt).mp c, c2⟩, rfl⟩
      · rw [if_neg (nI_ne0 (by omega) (by omega))]
        exact Or.inr ⟨fun hv => c2 ((va_iff I).mp hv).2.2, rfl⟩
    · rw [if_neg c]
      exact Or.inr ⟨fun hv => c ((sub_x hA hlt).mpr ((va_iff I).mp hv).2.1), rfl⟩
theorem In0.mrow {h k g : Hp} {d w C K T M R : Nat} (I : In0 h k d w C K T M R) (e1 : g.2 = k.2) (e2 : ∀ q, q ≠ 16 → q ≠ 17 → g.1 q = k.1 q) : In0 h g d w C K T M R := by
  refine I.frame rfl e1 ?_ ?_ rfl ?_ rfl ?_
  · rw [e2 0 (by decide) (by decide)]; exact I.2.2.2.2.1.1
  · rw [e2 0 (by decide) (by decide)]; exact I.2.2.2.2.1.2
  · funext q j
    unfold ks
    split
    · rw [e2 q (by omega) (by omega)]
    · rfl
  · funext q j
    unfold kd
    split
    · rw [e2 q (by omega) (by omega)]
    · rfl
def vS (K : Nat) : Option Nat → Int32
  | none => -9
  | some x => nI (smX K x)
theorem spare_L {h k : Hp} {d w C K T M R : Nat} (I : In0 h k d w C K T M R) {A B : Nat} (hA : A < 256) (hB : B < 256) : ∀ (N x : Nat) (g : Hp) (s : Option Nat), g.2 = k.2 → (∀ q, q ≠ 16 → q ≠ 17 → g.1 q = k.1 q) → (∀ y, s = some y → ∀ j, j < K → g.1 17 j = nI (dg 9 K y j)) → Opt (VA (Dn h d T) (dpN h d T B) A K) (smX K) x s → x ≤ 9 ^ K → 9 ^ K + 1 ≤ x + N →
    ∃ g' s', F_X7_findSpare_L6 0 (nI A) (nI B) N (vS K s) (nI x) g = some (vS K s', g') ∧ g'.2 = k.2 ∧ (∀ q, q ≠ 16 → q ≠ 17 → g'.1 q = k.1 q) ∧ (∀ y, s' = some y → ∀ j, j < K → g'.1 17 j = nI (dg 9 K y j)) ∧ Opt (VA (Dn h d T) (dpN h d T B) A K) (smX K) (9 ^ K) s' := by
  have hK := I.K.2.2
  have h9 : 9 ^ K ≤ 6561 := Nat.pow_le_pow_right (n := 9) (j := 4) (by decide) hK
  intro N
  induction N with
  | zero => intro x g s h1 h2 h3 h4 h5 h6; omega
  | succ N ih =>
    intro x g s g2 g1 hk ho h5 h6
    have Ig := I.mrow g2 g1
    have hro : F_X7_rowsOf 0 (9 : Int32) g = some (nI (9 ^ K), g) := rowsOf_x (B := 9) hK Ig.K.2.1
    rw [F_X7_findSpare_L6, hro, bnd_s]
    by_cases e : x = 9 ^ K
    · subst e
      rw [if_pos (Int32.le_refl _)]
      exact ⟨g, s, rfl, g2, g1, hk, ho⟩
    · have hx : x < 9 ^ K := by omega
      have hla : F_X7_layRow 0 (nI x) (9 : Int32) g = some ((), pQ g 16 K (fun j => nI (dg 9 K x j))) := layRow_x (B := 9) Ig.2.2.2.1 (fun _ => by decide) (by decide) hK Ig.K.2.1 (by omega)
      rw [if_neg (nI_ge hx (by omega)), hla, bnd_s]
      have l2 : (pQ g 16 K (fun j => nI (dg 9 K x j))).2 = k.2 := g2
      have l1 : ∀ q, q ≠ 16 → q ≠ 17 → (pQ g 16 K (fun j => nI (dg 9 K x j))).1 q = k.1 q := fun q q1 q2 => by rw [pQ_off q1, g1 q q1 q2]
      have lk : ∀ y, s = some y → ∀ j, j < K → (pQ g 16 K (fun j => nI (dg 9 K x j))).1 17 j = nI (dg 9 K y j) := fun y hy j hj => by
        rw [pQ_off (by decide)]
        exact hk y hy j hj
      have I2 := I.mrow l2 l1
      have hrow : ∀ j, j < K → (pQ g 16 K (fun j => nI (dg 9 K x j))).1 16 j = nI (dg 9 K x j) := fun j hj => pQ_on hj
      have hsp := spared_x I2 (x := x) hA hB hrow
      generalize pQ g 16 K (fun j => nI (dg 9 K x j)) = m at l2 l1 lk I2 hrow hsp
      have hkeep := keepRow_x I2.2.2.2.1 hK I2.K.2.1
      have hsx : ∀ y, smX K y ≤ 32 := fun y => by have := smX_b K y; omega
      have hx' := hsx x
      have goNew : VA (Dn h d T) (dpN h d T B) A K x → (∀ y, s = some y → smX K x < smX K y) → ∃ g' s', F_X7_findSpare_L6 0 (nI A) (nI B) N (nI (smX K x)) (nI (x + 1)) (pQ m 17 K (m.1 16)) = some (vS K s', g') ∧ g'.2 = k.2 ∧ (∀ q, q ≠ 16 → q ≠ 17 → g'.1 q = k.1 q) ∧ (∀ y, s' = some y → ∀ j, j < K → g'.1 17 j = nI (dg 9 K y j)) ∧ Opt (VA (Dn h d T) (dpN h d T B) A K) (smX K) (9 ^ K) s' := by
        intro hv hs
        exact ih (x + 1) (pQ m 17 K (m.1 16)) (some x) l2 (fun q q1 q2 => by rw [pQ_off q2, l1 q q1 q2]) (fun y hy j hj => by
          have : x = y := Option.some.inj hy
          subst this
          rw [pQ_on hj, hrow j hj]) (opt_new ho hv hs) (by omega) (by omega)
      rcases hsp with ⟨v1, v2⟩ | ⟨v1, v2⟩
      · rw [v2, bnd_s, if_neg (nIne9 (show smX K x < 2 ^ 31 by omega))]
        cases s with
        | none =>
          rw [if_pos (show vS K none = -9 from rfl)]
          unfold F_X7_findSpare_J52
          rw [hkeep, bnd_s, nm_x, nI_1]
          exact goNew v1 (fun y hy => by cases hy)
        | some y =>
          have hy := hsx y
          rw [show vS K (some y) = nI (smX K y) from rfl, if_neg (nIne9 (show smX K y < 2 ^ 31 by omega))]
          by_cases c : smX K y ≤ smX K x
          · rw [if_pos (nI_le c (by omega)), nm_x, nI_1]
            exact ih (x + 1) m (some y) l2 l1 lk (opt_skip ho (by omega) (fun z z1 z2 hv => by
              have : z = x := by omega
              subst this
              exact ⟨y, rfl, c⟩)) (by omega) (by omega)
          · rw [if_neg (nI_ge (show smX K x < smX K y by omega) (by omega))]
            unfold F_X7_findSpare_J52
            rw [hkeep, bnd_s, nm_x, nI_1]
            exact goNew v1 (fun z hz => by cases hz; omega)
      · rw [v2, bnd_s, if_pos rfl, nm_x, nI_1]
        exact ih (x + 1) m s l2 l1 lk (opt_skip ho (by omega) (fun z z1 z2 hv => by
          have : z = x := by omega
          subst this
          exact absurd hv v1)) (by omega) (by omega)
theorem set_q (x : Int32) (h k : Hp) : (F_X6_isWordSet x h = some (0, h) ∧ F_X7_within x 0 255 k = some (0, k)) ∨ ∃ i, i < 256 ∧ x = nI i ∧ F_X6_isWordSet x h = some (1, h) ∧ F_X7_within x 0 255 k = some (1, k) := by
  rw [mWithin]
  unfold F_X6_isWordSet
  by_cases c1 : x < 0
  · rw [if_pos c1, if_pos c1]
    exact Or.inl ⟨rfl, rfl⟩
  · rw [if_neg c1, if_neg c1]
    by_cases c2 : (255 : Int32) < x
    · rw [if_pos c2, if_pos c2]
      exact Or.inl ⟨rfl, rfl⟩
    · rw [if_neg c2, if_neg c2]
      obtain ⟨i, hi, hx⟩ := nI_of2 (M := 255) (n := 255) rfl c1 (Int32.not_lt.mp c2)
      exact Or.inr ⟨i, by omega, hx, rfl, rfl⟩
theorem st_spare : ∀ a b c : Int32, SP Inv (fun h => F_X6_spare 0 a b c h) (fun k => F_X7_spare 0 a b c k) := by
  rintro a b c h k ⟨d, w, C, K, T, M, R, I⟩
  have hS := SD_of I.1
  have hR := I.2.2.1
  have hD := hR.dr I.1
  have hM := I.2.2.2.1
  unfold RC at hR
  unfold SD at hS
  unfold DR at hD
  unfold RM at hM
  have hK := I.K.2.2
  dsimp only
  unfold F_X6_spare F_X7_spare
  by_cases c1 : (-1 : Int32) ≤ c
  · rw [if_pos c1, if_pos c1]
    rcases set_q a h k with ⟨e1, e2⟩ | ⟨A, hA, rfl, e1, e2⟩
    · rw [e1, e2]
      exact ⟨_, h, k, rfl, rfl, d, w, C, K, T, M, R, I⟩
    rw [e1, e2, bnd_s, bnd_s, if_neg (show ¬ (1 : Int32) = 0 by decide), if_neg (show ¬ (1 : Int32) = 0 by decide)]
    rcases set_q b h k with ⟨e3, e4⟩ | ⟨B, hB, rfl, e3, e4⟩
    · rw [e3, e4]
      exact ⟨_, h, k, rfl, rfl, d, w, C, K, T, M, R, I⟩
    rw [e3, e4, bnd_s, bnd_s, if_neg (show ¬ (1 : Int32) = 0 by decide), if_neg (show ¬ (1 : Int32) = 0 by decide)]
    obtain ⟨n1, n2⟩ := noDairy_x I
    simp only [n1, n2, bnd_s]
    by_cases c2 : T = 0
    · simp only [if_pos c2, if_neg (show ¬ (1 : Int32) = 0 by decide)]
      exact ⟨_, h, k, rfl, rfl, d, w, C, K, T, M, R, I⟩
    · obtain ⟨g, s, x1, x2, x3, x4⟩ := sfind_x I hA hB
      obtain ⟨l, s', y1, y2, y3, y4, y5⟩ := spare_L I hA hB FU 0 k none rfl (fun _ _ _ => rfl) (fun y hy => by cases hy) (fun y hy => absurd hy (by omega)) (Nat.zero_le _) (by
        have : 9 ^ K ≤ 6561 := Nat.pow_le_pow_right (n := 9) (j := 4) (by decide) hK
        unfold FU
        omega)
      have hss := opt_u x4 y5
      subst hss
      rw [nI_0, show vS K none = -9 from rfl] at y1
      have I2 := x2.mrow y2 y3
      have o2 := sO.2.1
      have hR2 := I2.2.2.1
      unfold RC at hR2
      have hfew : g.1 2 1 = vS K s := by
        cases s with
        | none => exact x3
        | some x => exact x3.1
      unfold F_X7_findSpare
      simp only [if_neg c2, if_true, hR, gO_s, o2, hS, ck_t, x1, y1, bnd_s, hR2, hfew]
      by_cases c3 : c = -1
      · simp only [if_pos c3]
        exact ⟨_, g, l, rfl, rfl, d, w, C, K, T, M, R, I2⟩
      · simp only [if_neg c3]
        rcases cheese_q I2 c with ⟨e5, e6⟩ | ⟨i, hi, rfl, e5, e6⟩
        · simp only [e5, e6, bnd_s, if_true]
          split
          · exact ⟨_, g, l, rfl, rfl, d, w, C, K, T, M, R, I2⟩
          · exact ⟨_, g, l, rfl, rfl, d, w, C, K, T, M, R, I2⟩
        · have hM2 := I2.2.2.2.1
          unfold RM at hM2
          have a3 := aIn_i (sh := shC) (q := 3) (n := 4) (by decide +kernel) (show i < 4 by omega) (by decide)
          have a17 := aIn_i (sh := shM) (q := 17) (n := 4) (by decide +kernel) (show i < 4 by omega) (by decide)
          simp only [e5, e6, bnd_s, if_neg (show ¬ (1 : Int32) = 0 by decide), hR2, hM2, gO_s, o2, ck_t, ob_s, a3, a17, cl_i (show i < 2 ^ 31 by omega), hfew]
          cases s with
          | none =>
            rw [if_pos (show vS K none = -9 from rfl), if_pos (show vS K none = -9 from rfl)]
            exact ⟨_, g, l, rfl, rfl, d, w, C, K, T, M, R, I2⟩
          | some x =>
            have hx := smX_b K x
            rw [if_neg (show ¬ vS K (some x) = -9 from nIne9 (show smX K x < 2 ^ 31 by omega)), if_neg (show ¬ vS K (some x) = -9 from nIne9 (show smX K x < 2 ^ 31 by omega)), x3.2 i hi, y4 x rfl i hi]
            exact ⟨_, g, l, rfl, rfl, d, w, C, K, T, M, R, I2⟩
  · rw [if_neg c1, if_neg c1]
    exact ⟨_, h, k, rfl, rfl, d, w, C, K, T, M, R, I⟩
