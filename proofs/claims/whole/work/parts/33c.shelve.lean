/-! the reference tries all rows of cellars -/
def ShM (k g : Hp) (K : Nat) : Prop := g.2 = k.2 ∧ g.1 0 15 = 0 ∧ (∀ j, j ≠ 15 → g.1 0 j = k.1 0 j) ∧ (∀ q, q ≠ 0 → q ≠ 5 → q ≠ 16 → q ≠ 17 → q ≠ 18 → g.1 q = k.1 q) ∧ (∀ j, K ≤ j → g.1 5 j = k.1 5 j) ∧ ∀ j, j < K → g.1 18 j = k.1 5 j
theorem ShM.q16 {k g : Hp} {K : Nat} (S : ShM k g K) (f : Nat → Int32) : ShM k (pQ g 16 K f) K := by
  obtain ⟨s1, s2, s3, s4, s5, s6⟩ := S
  refine ⟨s1, ?_, ?_, ?_, ?_, ?_⟩
  · rw [pQ_off (by decide)]; exact s2
  · rw [pQ_off (by decide)]; exact s3
  · intro q q1 q2 q3 q4 q5
    rw [pQ_off q3]
    exact s4 q q1 q2 q3 q4 q5
  · rw [pQ_off (by decide)]; exact s5
  · rw [pQ_off (by decide)]; exact s6
theorem ShM.q17 {k g : Hp} {K : Nat} (S : ShM k g K) (f : Nat → Int32) : ShM k (pQ g 17 K f) K := by
  obtain ⟨s1, s2, s3, s4, s5, s6⟩ := S
  refine ⟨s1, ?_, ?_, ?_, ?_, ?_⟩
  · rw [pQ_off (by decide)]; exact s2
  · rw [pQ_off (by decide)]; exact s3
  · intro q q1 q2 q3 q4 q5
    rw [pQ_off q4]
    exact s4 q q1 q2 q3 q4 q5
  · rw [pQ_off (by decide)]; exact s5
  · rw [pQ_off (by decide)]; exact s6
theorem ShM.q5 {k g : Hp} {K : Nat} (S : ShM k g K) (f : Nat → Int32) : ShM k (pQ g 5 K f) K := by
  obtain ⟨s1, s2, s3, s4, s5, s6⟩ := S
  refine ⟨s1, ?_, ?_, ?_, ?_, ?_⟩
  · rw [pQ_off (by decide)]; exact s2
  · rw [pQ_off (by decide)]; exact s3
  · intro q q1 q2 q3 q4 q5
    rw [pQ_off q2]
    exact s4 q q1 q2 q3 q4 q5
  · intro j hj
    rw [pQ_1, if_neg (by omega)]
    exact s5 j hj
  · rw [pQ_off (by decide)]; exact s6
theorem shelf_h {h k g : Hp} {d w C K T M R : Nat} (I : In0 h k d w C K T M R) (S : ShM k g K) {i c : Nat} (hi : i < K) (hc : c < C) (hf : g.1 5 i = nI c) : F_X7_heardBy 0 (nI i) g = some (hsX h d i T (nI c), g) := by
  have hK := I.K.2.2
  have hT := I.T.2.2
  have hC := I.C.2.2
  obtain ⟨s1, s2, s3, s4, s5, s6⟩ := S
  have hM : RM g := RM_c s1 I.2.2.2.1
  have row : ∀ q, q ≠ 0 → q ≠ 5 → q < 16 → g.1 q = k.1 q := fun q q1 q2 q3 => s4 q q1 q2 (by omega) (by omega) (by omega)
  have hwh : ∀ t, t < T → F_X7_whereOf 0 (nI i) (nI t) g = some ((fun _ => nI c) t, g) := by
    intro t ht
    have := whereOf_x (a := dv h d) (M := 0) hM (by rw [s2]; rfl) (by omega) (fun j hj => absurd hj (by omega)) (show i < 4 by omega) (nI t)
    rw [this, show car (dv h d) 0 (nI i) (nI t) = -9 from rfl, if_pos rfl, hf]
  rw [heardBy_x hM (show i < 4 by omega) (by rw [s3 7 (by decide)]; exact I.T.2.1) hT (fun _ => nI c) hwh]
  obtain ⟨⟨x1, hx1, e1⟩, -, ⟨x3, hx3, e3⟩, -, f1, f2, f3, f4⟩ := I.cheese hi
  unfold hsM hsX
  rw [row 4 (by decide) (by decide) (by decide), row 6 (by decide) (by decide) (by decide), f1]
  congr 2
  apply hL_c
  intro t _ ht
  obtain ⟨⟨y5, hy5, g5⟩, -, -, h8, h9, -⟩ := I.talk (show t < T by omega)
  have hwh : g.1 0 19 = 0 := by
    rw [s3 19 (by decide), ← kd_r (by decide)]
    exact I.2.2.2.2.2.2.2.2.1.2.2.2.2.2
  have his : isV g t = h.1 (d + 6) t := by
    unfold isV
    rw [hwh, row 9 (by decide) (by decide) (by decide), h9, if_neg]
    intro z
    have : (0 : Int32) >>> (nI t &&& 31) = 0 := by
      apply Int32.toBitVec_inj.mp
      simp
    rw [this] at z
    exact absurd z (by decide)
  have E1 : abV (nI c - k.1 8 t) = mA (h.1 (d + 5) t - nI c) := by rw [h8, g5, ab_eq c (by omega) y5 (by omega)]
  have E2 : needV (h.1 (d + 1) i) (k.1 6 i) = (if h.1 (d + 1) i = 1 then h.1 (d + 3) i + 1 else mX (h.1 (d + 3) i) 1) := by rw [f3, e1, e3, need_eq x1 hx1 x3 hx3]
  unfold catM catX catV
  dsimp only
  rw [if_neg (nIne9 (show c < 2 ^ 31 by omega)), his, row 7 (by decide) (by decide) (by decide), row 8 (by decide) (by decide) (by decide), f4, E1, E2]
theorem wH_L {h k g : Hp} {d w C K T M R : Nat} (I : In0 h k d w C K T M R) (S : ShM k g K) {ρ : Nat → Nat} (hf : ∀ i, i < K → ρ i < C ∧ g.1 5 i = nI (ρ i)) (kk : Int32 → Hp → Option (Int32 × Hp)) : ∀ (N i : Nat), i ≤ K → K + 1 ≤ i + N → F_X7_wordsHeard_L4 kk 0 N (nI (acR (Wn h d T) ρ i)) (nI i) g = kk (nI (acR (Wn h d T) ρ K)) g := by
  have hK := I.K.2.2
  have hM : RM g := RM_c S.1 I.2.2.2.1
  intro N
  induction N with
  | zero => intro i h1 h2; omega
  | succ N ih =>
    intro i h1 h2
    rw [F_X7_wordsHeard_L4, S.2.2.1 6 (by decide), I.K.2.1]
    by_cases e : i = K
    · subst e
      rw [if_pos (Int32.le_refl _)]
    · have hi : i < K := by omega
      rw [if_neg (nI_ge hi (by omega))]
      obtain ⟨H, x1, x2, x3, x4, -⟩ := I.wn i (ρ i)
      have y1 := shelf_h I S hi (hf i hi).1 (hf i hi).2
      rw [x3] at y1
      have y2 := wordsOf_x (l := 8) hM (by rw [S.2.2.1 7 (by decide)]; exact I.T.2.1) I.T.2.2 x1 (by decide)
      rw [take8 I.T.2.2, S.2.2.2.1 10 (by decide) (by decide) (by decide) (by decide) (by decide), orL_c (lys H T) 0 I.wd, x4] at y2
      rw [y1, bnd_s, show (8 : Int32) = nI 8 from rfl, y2, bnd_s, nm_x, nm_x, or_nI, nI_1]
      exact ih (i + 1) (by omega) (by omega)
theorem wH_x {h k g : Hp} {d w C K T M R : Nat} (I : In0 h k d w C K T M R) (S : ShM k g K) {ρ : Nat → Nat} (hf : ∀ i, i < K → ρ i < C ∧ g.1 5 i = nI (ρ i)) : F_X7_wordsHeard 0 g = some (nI (pcF 8 (acR (Wn h d T) ρ K)), g) := by
  have hK := I.K.2.2
  have h1 := wH_L I S hf (fun w12 h13 => bnd (F_X7_size w12 h13) fun r15 h14 => some (r15, h14)) FU 0 (by omega) (by unfold FU; omega)
  rw [nI_0, show nI (acR (Wn h d T) ρ 0) = 0 from rfl] at h1
  unfold F_X7_wordsHeard
  rw [h1]
  have hlt : acR (Wn h d T) ρ K < 2 ^ 8 := acR_b (K := K) (fun j hj => by
    obtain ⟨H, -, -, -, -, e⟩ := I.wn j (ρ j)
    exact e) K (Nat.le_refl _)
  rw [size_x hlt (by decide), bnd_s, lys_len]
theorem copy67 {k : Hp} (hM : RM k) {K : Nat} (hK : K ≤ 4) (hk : k.1 0 6 = nI K) (kk : Hp → Option (Int32 × Hp)) (a b c : Int32) : ∀ (N i : Nat), i ≤ K → K + 1 ≤ i + N → F_X7_findShelves_L67 kk 0 a b c N (nI i) (pQ k 5 i (k.1 16)) = kk (pQ k 5 K (k.1 16)) := by
  unfold RM at hM
  intro N
  induction N with
  | zero => intro i h1 h2; omega
  | succ N ih =>
    intro i h1 h2
    rw [F_X7_findShelves_L67, pQ_off (show (0 : Nat) ≠ 5 by decide), hk]
    by_cases e : i = K
    · subst e
      rw [if_pos (Int32.le_refl _)]
    · rw [if_neg (nI_ge (show i < K by omega) (by omega))]
      have a16 := aIn_i (sh := shM) (q := 16) (n := 4) (by decide +kernel) (show i < 4 by omega) (by decide)
      have a5 := aIn_i (sh := shM) (q := 5) (n := 4) (by decide +kernel) (show i < 4 by omega) (by decide)
      have e2 : (pQ k 5 i (k.1 16)).2 = k.2 := rfl
      simp only [e2, hM, ob_s, a16, a5, ck_t, nm_x, cl_i (show i < 2 ^ 31 by omega), nI_1, pQ_off (show (16 : Nat) ≠ 5 by decide), pQ_s]
      exact ih (i + 1) (by omega) (by omega)
theorem copy12 {k : Hp} (hM : RM k) {K : Nat} (hK : K ≤ 4) (hk : k.1 0 6 = nI K) (kk : Hp → Option (Int32 × Hp)) (a : Int32) : ∀ (N i : Nat), i ≤ K → K + 1 ≤ i + N → F_X7_findShelves_L12 kk 0 a N (nI i) (pQ k 18 i (k.1 5)) = kk (pQ k 18 K (k.1 5)) := by
  unfold RM at hM
  intro N
  induction N with
  | zero => intro i h1 h2; omega
  | succ N ih =>
    intro i h1 h2
    rw [F_X7_findShelves_L12, pQ_off (show (0 : Nat) ≠ 18 by decide), hk]
    by_cases e : i = K
    · subst e
      rw [if_pos (Int32.le_refl _)]
    · rw [if_neg (nI_ge (show i < K by omega) (by omega))]
      have a18 := aIn_i (sh := shM) (q := 18) (n := 4) (by decide +kernel) (show i < 4 by omega) (by decide)
      have a5 := aIn_i (sh := shM) (q := 5) (n := 4) (by decide +kernel) (show i < 4 by omega) (by decide)
      have e2 : (pQ k 18 i (k.1 5)).2 = k.2 := rfl
      simp only [e2, hM, ob_s, a18, a5, ck_t, nm_x, cl_i (show i < 2 ^ 31 by omega), nI_1, pQ_off (show (5 : Nat) ≠ 18 by decide), pQ_s]
      exact ih (i + 1) (by omega) (by omega)
theorem copy123 {k : Hp} (hM : RM k) {K : Nat} (hK : K ≤ 4) (hk : k.1 0 6 = nI K) (a b : Int32) : ∀ (N i : Nat), i ≤ K → K + 1 ≤ i + N → F_X7_findShelves_L123 0 a b N (nI i) (pQ k 5 i (k.1 18)) = some (b, pI (pQ k 5 K (k.1 18)) 0 15 a) := by
  unfold RM at hM
  intro N
  induction N with
  | zero => intro i h1 h2; omega
  | succ N ih =>
    intro i h1 h2
    rw [F_X7_findShelves_L123, pQ_off (show (0 : Nat) ≠ 5 by decide), hk]
    by_cases e : i = K
    · subst e
      rw [if_pos (Int32.le_refl _), nm_x]
    · rw [if_neg (nI_ge (show i < K by omega) (by omega))]
      have a18 := aIn_i (sh := shM) (q := 18) (n := 4) (by decide +kernel) (show i < 4 by omega) (by decide)
      have a5 := aIn_i (sh := shM) (q := 5) (n := 4) (by decide +kernel) (show i < 4 by omega) (by decide)
      have e2 : (pQ k 5 i (k.1 18)).2 = k.2 := rfl
      simp only [e2, hM, ob_s, a18, a5, ck_t, nm_x, cl_i (show i < 2 ^ 31 by omega), nI_1, pQ_off (show (18 : Nat) ≠ 5 by decide), pQ_s]
      exact ih (i + 1) (by omega) (by omega)
theorem CK_b {C K : Nat} (hC : C ≤ 5) (hK : K ≤ 4) : C ^ K ≤ 625 := by
  have h1 : C ^ K ≤ 5 ^ K := Nat.pow_le_pow_left hC K
  have h2 : 5 ^ K ≤ 5 ^ 4 := Nat.pow_le_pow_right (by decide) hK
  exact Nat.le_trans h1 h2
theorem shelves_L {h k : Hp} {d w C K T M R : Nat} (I : In0 h k d w C K T M R) (kk : Int32 → Hp → Option (Int32 × Hp)) (x14 : Int32) : ∀ (N x : Nat) (g : Hp) (s : Int32 × Option Nat), ShM k g K → Bst C K s (g.1 17) → x ≤ C ^ K → C ^ K + 1 ≤ x + N → ∃ g', ShM k g' K ∧ Bst C K (fld (gS h d T C K) (C ^ K - x) x s) (g'.1 17) ∧ F_X7_findShelves_L43 kk 0 x14 N s.1 (nI x) g = kk (fld (gS h d T C K) (C ^ K - x) x s).1 g' := by
  have hK := I.K.2.2
  have hC := I.C.2.2
  have hCK := CK_b hC hK
  intro N
  induction N with
  | zero => intro x g s h1 h2 h3 h4; omega
  | succ N ih =>
    intro x g s S hb h3 h4
    have hM : RM g := RM_c S.1 I.2.2.2.1
    have gK : g.1 0 6 = nI K := by rw [S.2.2.1 6 (by decide)]; exact I.K.2.1
    have gC : g.1 0 5 = nI C := by rw [S.2.2.1 5 (by decide)]; exact I.C.2.1
    rw [F_X7_findShelves_L43, gC, rowsOf_x hK gK, bnd_s]
    by_cases e : x = C ^ K
    · subst e
      rw [if_pos (Int32.le_refl _), Nat.sub_self]
      exact ⟨g, S, hb, rfl⟩
    · have hx : x < C ^ K := by omega
      rw [if_neg (nI_ge hx (by omega)), gC, layRow_x hM I.cpos (by omega) hK gK (by omega), bnd_s]
      have S1 := S.q16 (fun j => nI (dg C K x j))
      have S2 := S1.q5 ((pQ g 16 K (fun j => nI (dg C K x j))).1 16)
      have hc := copy67 (k := pQ g 16 K (fun j => nI (dg C K x j))) (RM_c rfl hM) hK (by rw [pQ_off (by decide)]; exact gK) (fun h32 => bnd (F_X7_wordsHeard 0 h32) fun r34 h33 => if r34 ≤ s.1 then (nm (nI x + (1 : Int32)) fun x35 => F_X7_findShelves_L43 kk 0 x14 N s.1 x35 h33) else (bnd (F_X7_keepRow 0 h33) fun _ h36 => nm (nI x + (1 : Int32)) fun x37 => F_X7_findShelves_L43 kk 0 x14 N r34 x37 h36)) x14 s.1 (nI x) FU 0 (by omega) (by unfold FU; omega)
      rw [pQ_0, nI_0] at hc
      rw [hc]
      generalize hg2 : pQ (pQ g 16 K (fun j => nI (dg C K x j))) 5 K ((pQ g 16 K (fun j => nI (dg C K x j))).1 16) = g2 at S2
      have h16 : ∀ j, j < K → g2.1 16 j = nI (dg C K x j) := fun j hj => by
        rw [← hg2, pQ_off (by decide), pQ_on hj]
      have h17 : g2.1 17 = g.1 17 := by
        rw [← hg2, pQ_off (by decide), pQ_off (by decide)]
      have hw := wH_x I S2 (ρ := dg C K x) (fun i hi => ⟨dg_lt (I.cpos (by omega)), by rw [← hg2, pQ_on hi, pQ_on hi]⟩)
      rw [show C ^ K - x = (C ^ K - (x + 1)) + 1 by omega, fld, upB]
      rw [hw, bnd_s]
      by_cases c : nI (pcF 8 (acR (Wn h d T) (dg C K x) K)) ≤ s.1
      · rw [if_pos c, nm_x, nI_1, if_pos (show nI (gS h d T C K x) ≤ s.1 from c)]
        exact ih (x + 1) g2 s S2 (by rw [h17]; exact hb) (by omega) (by omega)
      · rw [if_neg c, keepRow_x (RM_c S2.1 I.2.2.2.1) hK (by rw [S2.2.2.1 6 (by decide)]; exact I.K.2.1), bnd_s, nm_x, nI_1, if_neg (show ¬ nI (gS h d T C K x) ≤ s.1 from c)]
        refine ih (x + 1) (pQ g2 17 K (g2.1 16)) (nI (gS h d T C K x), some x) (S2.q17 _) ?_ (by omega) (by omega)
        intro y hy j hj
        have : x = y := Option.some.inj hy
        subst this
        rw [pQ_on hj, h16 j hj]
theorem shelves_x {h k : Hp} {d w C K T M R : Nat} (I : In0 h k d w C K T M R) : ∃ g, F_X7_findShelves 0 k = some ((fld (gS h d T C K) (C ^ K) 0 (-9, none)).1, g) ∧ (∀ f, In0 f k d w C K T M R → In0 f g d w C K T M R) ∧ g.2 = k.2 ∧ Bst C K (fld (gS h d T C K) (C ^ K) 0 (-9, none)) (g.1 17) := by
  have hK := I.K.2.2
  have hC := I.C.2.2
  have hCK := CK_b hC hK
  have hM := I.2.2.2.1
  unfold F_X7_findShelves
  rw [nm_x, nm_x]
  have h06 : (pI k 0 15 0).1 0 6 = nI K := by rw [pI_1, if_neg (by decide)]; exact I.K.2.1
  have h05 : (pI k 0 15 0).1 5 = k.1 5 := by funext j; rw [pI_1, if_neg (fun z => absurd z.1 (by decide))]
  have c1 := copy12 (k := pI k 0 15 0) (RM_c rfl hM) hK h06 (fun h12 => F_X7_findShelves_L43 (fun w40 h41 => F_X7_findShelves_L123 0 (k.1 0 15) w40 FU (0 : Int32) h41) 0 (k.1 0 15) FU (-9 : Int32) (0 : Int32) h12) (k.1 0 15) FU 0 (by omega) (by unfold FU; omega)
  rw [pQ_0, nI_0, h05] at c1
  rw [c1]
  have S : ShM k (pQ (pI k 0 15 0) 18 K (k.1 5)) K := by
    refine ⟨rfl, ?_, ?_, ?_, ?_, ?_⟩
    · rw [pQ_off (by decide), pI_1, if_pos (by decide)]
    · intro j hj
      rw [pQ_off (by decide), pI_1, if_neg (fun z => hj z.2)]
    · intro q q1 q2 q3 q4 q5
      rw [pQ_off q5]
      funext j
      rw [pI_1, if_neg (fun z => q1 z.1)]
    · intro j hj
      rw [pQ_off (by decide), h05]
    · intro j hj
      rw [pQ_on hj]
  obtain ⟨g, S2, x2, x3⟩ := shelves_L I (fun w40 h41 => F_X7_findShelves_L123 0 (k.1 0 15) w40 FU (0 : Int32) h41) (k.1 0 15) FU 0 _ (-9, none) S (fun x hx => by cases hx) (by omega) (by unfold FU; omega)
  rw [Nat.sub_zero] at x2 x3
  rw [nI_0] at x3
  rw [x3]
  have c3 := copy123 (RM_c S2.1 hM) hK (by rw [S2.2.2.1 6 (by decide)]; exact I.K.2.1) (k.1 0 15) (fld (gS h d T C K) (C ^ K) 0 (-9, none)).1 FU 0 (by omega) (by unfold FU; omega)
  rw [pQ_0, nI_0] at c3
  obtain ⟨s1, s2, s3, s4, s5, s6⟩ := S2
  refine ⟨_, c3, ?_, s1, ?_⟩
  · have r5 : ∀ j, (pI (pQ g 5 K (g.1 18)) 0 15 (k.1 0 15)).1 5 j = k.1 5 j := by
      intro j
      rw [pI_1, if_neg (fun z => absurd z.1 (by decide)), pQ_1]
      by_cases e : j < K
      · rw [if_pos ⟨rfl, e⟩, s6 j e]
      · rw [if_neg (fun z => e z.2), s5 j (by omega)]
    have r0 : ∀ j, (pI (pQ g 5 K (g.1 18)) 0 15 (k.1 0 15)).1 0 j = k.1 0 j := by
      intro j
      rw [pI_1]
      by_cases e : j = 15
      · rw [if_pos ⟨rfl, e⟩, e]
      · rw [if_neg (fun z => e z.2), pQ_off (by decide), s3 j e]
    have rq : ∀ q, q ≠ 16 → q ≠ 17 → q ≠ 18 → (pI (pQ g 5 K (g.1 18)) 0 15 (k.1 0 15)).1 q = k.1 q := by
      intro q q3 q4 q5
      funext j
      by_cases e0 : q = 0
      · rw [e0, r0]
      · by_cases e5 : q = 5
        · rw [e5, r5]
        · rw [pI_1, if_neg (fun z => e0 z.1), pQ_off e5, s4 q e0 e5 q3 q4 q5]
    intro f F
    refine F.frame rfl s1 ?_ ?_ rfl ?_ rfl ?_
    · rw [r0]; exact F.2.2.2.2.1.1
    · rw [r0]; exact F.2.2.2.2.1.2
    · funext q j
      unfold ks
      split
      · rw [rq q (by omega) (by omega) (by omega)]
      · rfl
    · funext q j
      unfold kd
      split
      · rw [rq q (by omega) (by omega) (by omega)]
      · rfl
  · intro x hx j hj
    rw [pI_1, if_neg (fun z => absurd z.1 (by decide)), pQ_off (by decide)]
    exact x2 x hx j hj
theorem fld_some {g : Nat → Nat} (hg : ∀ x, g x < 1000) : ∀ n x (s : Int32 × Option Nat), ((s.2 = none ∧ s.1 = -9 ∧ 0 < n) ∨ ∃ y, s.2 = some y) → ∃ y, (fld g n x s).2 = some y := by
  intro n
  induction n with
  | zero =>
    intro x s h
    rcases h with ⟨-, -, h⟩ | h
    · omega
    · exact h
  | succ n ih =>
    intro x s h
    rw [fld]
    refine ih _ _ (Or.inr ?_)
    unfold upB
    split
    · next c =>
      rcases h with ⟨-, h, -⟩ | h
      · exfalso
        rw [h] at c
        have h1 := nI_pos' (show g x < 2 ^ 31 by have := hg x; omega)
        have h2 := Int32.le_trans h1 c
        revert h2
        decide
      · exact h
    · exact ⟨x, rfl⟩
theorem st_shelve : ∀ a : Int32, SP Inv (fun h => F_X6_shelve 0 a h) (fun k => F_X7_shelve 0 a k) := by
  rintro a h k ⟨d, w, C, K, T, M, R, I⟩
  have hS := SD_of I.1
  have hR := I.2.2.1
  have hD := hR.dr I.1
  have hM := I.2.2.2.1
  unfold RC at hR
  unfold SD at hS
  unfold DR at hD
  unfold RM at hM
  have hK := I.K.2.2
  dsimp only
  unfold F_X6_shelve F_X7_shelve
  by_cases c1 : (-1 : Int32) ≤ a
  · rw [if_pos c1, if_pos c1]
    obtain ⟨n1, n2⟩ := noDairy_x I
    simp only [n1, n2, bnd_s]
    by_cases c2 : T = 0
    · simp only [if_pos c2, if_neg (show ¬ (1 : Int32) = 0 by decide)]
      exact ⟨_, h, k, rfl, rfl, d, w, C, K, T, M, R, I⟩
    · obtain ⟨g, x1, x2, x3, x4⟩ := find_x I
      obtain ⟨l, y1, y2, y3, y4⟩ := shelves_x I
      have I2 := y2 g x2
      have o12 := sO.2.2.1
      have hR2 := I2.2.2.1
      unfold RC at hR2
      simp only [if_neg c2, if_true, hR, gO_s, o12, hS, ck_t, x1, y1, bnd_s, hR2, x3]
      by_cases c3 : a = -1
      · simp only [if_pos c3]
        exact ⟨_, g, l, rfl, rfl, d, w, C, K, T, M, R, I2⟩
      · simp only [if_neg c3]
        rcases cheese_q I2 a with ⟨e1, e2⟩ | ⟨i, hi, rfl, e1, e2⟩
        · rw [e1, e2]
          exact ⟨_, g, l, rfl, rfl, d, w, C, K, T, M, R, I2⟩
        · have hM2 := I2.2.2.2.1
          unfold RM at hM2
          have a13 := aIn_i (sh := shC) (q := 13) (n := 4) (by decide +kernel) (show i < 4 by omega) (by decide)
          have a17 := aIn_i (sh := shM) (q := 17) (n := 4) (by decide +kernel) (show i < 4 by omega) (by decide)
          obtain ⟨x, hx⟩ := fld_some (g := gS h d T C K) (fun x => by have := pcF_le 8 (acR (Wn h d T) (dg C K x) K); unfold gS; omega) (C ^ K) 0 (-9, none) (Or.inl ⟨rfl, rfl, Nat.pow_pos (I.cpos (by omega))⟩)
          simp only [e1, e2, bnd_s, if_neg (show ¬ (1 : Int32) = 0 by decide), hR2, hM2, gO_s, o12, ck_t, ob_s, a13, a17, cl_i (show i < 2 ^ 31 by omega), x4 x hx i hi, y4 x hx i hi]
          exact ⟨_, g, l, rfl, rfl, d, w, C, K, T, M, R, I2⟩
  · rw [if_neg c1, if_neg c1]
    exact ⟨_, h, k, rfl, rfl, d, w, C, K, T, M, R, I⟩
