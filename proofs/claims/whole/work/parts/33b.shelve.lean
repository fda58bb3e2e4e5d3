/-- the words that cheese i hears if it stands in cellar c -/
def Wn (h : Hp) (d T i c : Nat) : Nat := (orL (h.1 (d + 7)) (lys (hsX h d i T (nI c)).toNatClampNeg T) 0).toNatClampNeg
theorem In0.wn {h k : Hp} {d w C K T M R : Nat} (I : In0 h k d w C K T M R) (i c : Nat) : ∃ H, H < 2 ^ T ∧ H < 2 ^ 31 ∧ hsX h d i T (nI c) = nI H ∧ orL (h.1 (d + 7)) (lys H T) 0 = nI (Wn h d T i c) ∧ Wn h d T i c < 256 := by
  obtain ⟨H, h1, h2⟩ := hsX_b (h := h) (d := d) (i := i) I.T.2.2 (nI c)
  have hp : 2 ^ T ≤ 2 ^ 8 := Nat.pow_le_pow_right (by decide) I.T.2.2
  obtain ⟨S, s1, s2⟩ := wd8 I (lys H T) 0 (fun t ht => lys_lt ht) (by decide)
  rw [nI_0] at s2
  have e : Wn h d T i c = S := by
    unfold Wn
    rw [h2, cl_i (show H < 2 ^ 31 by omega), s2, cl_i (show S < 2 ^ 31 by omega)]
  exact ⟨H, h1, by omega, h2, by rw [e]; exact s2, by omega⟩
theorem wordsTo_g {h k g : Hp} {d w C K T M R : Nat} (I : In0 h k d w C K T M R) (e1 : g.2 = h.2) (e2 : ∀ q, q < 21 → g.1 (d + q) = h.1 (d + q)) {i : Nat} (hi : i < 4) (c : Nat) : F_X0_wordsTo d (nI i) (nI c) g = some (nI (Wn h d T i c), g) := by
  obtain ⟨H, h1, h2, h3, h4, -⟩ := I.wn i c
  have hD : DR g d := (RC_c e1 I.2.2.1).dr I.1
  have hT : g.1 d 2 = nI T := by
    have := e2 0 (by decide)
    rw [Nat.add_zero] at this
    rw [this]
    exact I.T.1
  have x1 := talksTo_x hD (SD_of I.1) hi hT I.T.2.2 (nI c)
  rw [hsX_c e2 hi, h3] at x1
  have x2 := wordsDown_x hD (SD_of I.1) (l := 8) hT I.T.2.2 h2 (by decide)
  rw [take8 I.T.2.2, e2 7 (by decide), h4] at x2
  unfold F_X0_wordsTo
  rw [x1, bnd_s, show (8 : Int32) = nI 8 from rfl, x2, bnd_s]
def FlC (b g : Hp) (W : Nat → Nat → Nat) (C k c : Nat) : Prop := g.2 = b.2 ∧ (∀ q, ¬ (15 ≤ q ∧ q < 19) → g.1 q = b.1 q) ∧ (∀ x, x < k → ∀ y, y < C → g.1 (15 + x) y = nI (W x y)) ∧ ∀ y, y < c → g.1 (15 + k) y = nI (W k y)
theorem find_1 {h k b : Hp} {d w C K T M R : Nat} (I : In0 h k d w C K T M R) (b2 : b.2 = h.2) (b1 : ∀ q, q ≠ 12 → b.1 q = h.1 q) (bC : b.1 12 5 = nI C) {i : Nat} (hi : i < K) (kk : Hp → Option (Unit × Hp)) : ∀ (N c : Nat) (g : Hp), FlC b g (Wn h d T) C i c → c ≤ C → C + 1 ≤ c + N → ∃ g', FlC b g' (Wn h d T) C (i + 1) 0 ∧ F_X2_find_L34 kk 12 d (nI i) N (nI c) g = kk g' := by
  have hdd : 22 < d := by have := I.1; omega
  have hK := I.K.2.2
  have hC := I.C.2.2
  have hR := I.2.2.1
  have r2 : h.2 12 2 = some 14 := by unfold RC at hR; simp only [hR]
  have r4 : ∀ k, k < 4 → h.2 14 k = some (15 + k) := by
    unfold RC at hR
    intro k hk
    have : k = 0 ∨ k = 1 ∨ k = 2 ∨ k = 3 := by omega
    rcases this with rfl | rfl | rfl | rfl <;> simp only [hR]
  intro N
  induction N with
  | zero => intro c g h1 h2 h3; omega
  | succ N ih =>
    intro c g hg h2 h3
    obtain ⟨g1, g2, g3, g4⟩ := hg
    rw [F_X2_find_L34, g2 12 (by omega), bC]
    by_cases e : c = C
    · subst e
      rw [if_pos (Int32.le_refl _)]
      refine ⟨g, ⟨g1, g2, fun x hx y hy => ?_, fun y hy => absurd hy (by omega)⟩, rfl⟩
      by_cases ex : x = i
      · subst ex
        exact g4 y hy
      · exact g3 x (by omega) y hy
    · have hc : c < C := by omega
      rw [if_neg (nI_ge hc (by omega))]
      have a14 := aRn_i (kd := 3) (sh := shC) (q := 14) (n := 4) (by decide +kernel) (show i < 4 by omega) (by decide)
      have a15 := aIn_i (s15 i (by omega)) (show c < 5 by omega) (by decide)
      have hw := wordsTo_g I (g := g) (by rw [g1, b2]) (fun q hq => by rw [g2 (d + q) (by omega), b1 (d + q) (by omega)]) (show i < 4 by omega) c
      simp only [g1, b2, r2, r4 i (by omega), ob_s, a14, a15, ck_t, nm_x, hw, bnd_s, cl_i (show i < 2 ^ 31 by omega), cl_i (show c < 2 ^ 31 by omega), nI_1]
      refine ih (c + 1) _ ⟨g1, fun q hq => ?_, fun x hx y hy => ?_, fun y hy => ?_⟩ (by omega) (by omega)
      · rw [← g2 q hq]
        funext j
        rw [pI_1, if_neg (by omega)]
      · rw [pI_1, if_neg (by omega), g3 x hx y hy]
      · rw [pI_1]
        by_cases ey : y = c
        · rw [if_pos ⟨rfl, ey⟩, ey]
        · rw [if_neg (fun z => ey z.2), g4 y (by omega)]
theorem find_2 {h k b : Hp} {d w C K T M R : Nat} (I : In0 h k d w C K T M R) (b2 : b.2 = h.2) (b1 : ∀ q, q ≠ 12 → b.1 q = h.1 q) (bC : b.1 12 5 = nI C) (bK : b.1 12 4 = nI K) (kk : Hp → Option (Unit × Hp)) : ∀ (N i : Nat) (g : Hp), FlC b g (Wn h d T) C i 0 → i ≤ K → K + 1 ≤ i + N → ∃ g', FlC b g' (Wn h d T) C K 0 ∧ F_X2_find_L24 kk 12 d N (nI i) g = kk g' := by
  have hK := I.K.2.2
  have hC := I.C.2.2
  intro N
  induction N with
  | zero => intro i g h1 h2 h3; omega
  | succ N ih =>
    intro i g hg h2 h3
    rw [F_X2_find_L24, hg.2.1 12 (by omega), bK]
    by_cases e : i = K
    · subst e
      rw [if_pos (Int32.le_refl _)]
      exact ⟨g, hg, rfl⟩
    · rw [if_neg (nI_ge (show i < K by omega) (by omega))]
      obtain ⟨g1, x1, x2⟩ := find_1 I b2 b1 bC (show i < K by omega) (fun h20 => nm (nI i + (1 : Int32)) fun x21 => F_X2_find_L24 kk 12 d N x21 h20) FU 0 g hg (by omega) (by unfold FU; omega)
      rw [nI_0] at x2
      obtain ⟨g2, y1, y2⟩ := ih (i + 1) g1 x1 (by omega) (by omega)
      refine ⟨g2, y1, ?_⟩
      rw [x2, nm_x, nI_1]
      exact y2
theorem In0.cpos {h k : Hp} {d w C K T M R : Nat} (I : In0 h k d w C K T M R) (hK : 0 < K) : 0 < C := by
  obtain ⟨-, ⟨x, hx, -⟩, -⟩ := I.cheese hK
  omega
def gS (h : Hp) (d T C K x : Nat) : Nat := pcF 8 (acR (Wn h d T) (dg C K x) K)
theorem find_x {h k : Hp} {d w C K T M R : Nat} (I : In0 h k d w C K T M R) : ∃ g, F_X2_find 12 d h = some ((), g) ∧ In0 g k d w C K T M R ∧ g.1 12 1 = (fld (gS h d T C K) (C ^ K) 0 (-9, none)).1 ∧ Bst C K (fld (gS h d T C K) (C ^ K) 0 (-9, none)) (g.1 13) := by
  have hdd : 22 < d ∧ d < 46 := by have := I.1; omega
  have hK := I.K.2.2
  have hC := I.C.2.2
  have hR := I.2.2.1
  have r4 : ∀ k, k < 4 → h.2 14 k = some (15 + k) := by
    unfold RC at hR
    intro k hk
    have : k = 0 ∨ k = 1 ∨ k = 2 ∨ k = 3 := by omega
    rcases this with rfl | rfl | rfl | rfl <;> simp only [hR]
  unfold F_X2_find
  have v1 : (pI h 12 4 (h.1 d 1)).1 d 0 = nI C := by rw [pI_1, if_neg (by omega)]; exact I.C.1
  rw [nm_x, nm_x, nm_x, I.K.1] at *
  rw [v1]
  generalize hb : pI (pI (pI h 12 4 (nI K)) 12 5 (nI C)) 12 1 (-9) = b
  have b2 : b.2 = h.2 := by rw [← hb]; rfl
  have b1 : ∀ q, q ≠ 12 → b.1 q = h.1 q := by
    intro q hq
    rw [← hb]
    funext j
    rw [pI_1, if_neg (fun z => hq z.1), pI_1, if_neg (fun z => hq z.1), pI_1, if_neg (fun z => hq z.1)]
  have bC : b.1 12 5 = nI C := by rw [← hb, pI_1, if_neg (by decide), pI_1, if_pos (by decide)]
  have bK : b.1 12 4 = nI K := by rw [← hb, pI_1, if_neg (by decide), pI_1, if_neg (by decide), pI_1, if_pos (by decide)]
  have bm : b.1 12 1 = -9 := by rw [← hb, pI_1, if_pos (by decide)]
  obtain ⟨g, x1, x2⟩ := find_2 I b2 b1 bC bK (fun h23 => bnd (F_X2_shelveFrom 8 12 (0 : Int32) (0 : Int32) h23) fun _ h24 => some ((), h24)) FU 0 b ⟨rfl, fun _ _ => rfl, fun x hx => absurd hx (by omega), fun x hx => absurd hx (by omega)⟩ (by omega) (by unfold FU; omega)
  rw [nI_0] at x2
  rw [x2]
  obtain ⟨g1, g2, g3, -⟩ := x1
  have hB : ShB g C K (Wn h d T) := by
    refine ⟨hK, hC, I.cpos, ⟨?_, ?_, ?_, ?_⟩, by rw [g2 12 (by omega)]; exact bK, by rw [g2 12 (by omega)]; exact bC, g3, fun i _ c _ => ?_⟩
    · rw [g1, b2]; unfold RC at hR; simp only [hR]
    · rw [g1, b2]; unfold RC at hR; simp only [hR]
    · rw [g1, b2]; unfold RC at hR; simp only [hR]
    · rw [g1, b2]; exact r4
    · obtain ⟨H, -, -, -, -, e⟩ := I.wn i c
      exact e
  obtain ⟨g', y1, y2, -, y4, y5⟩ := shelve_R hB K 0 0 8 g (-9, none) (by omega) (by omega) ⟨rfl, fun _ _ _ _ => rfl, fun _ _ => rfl⟩ (fun j hj => absurd hj (by omega)) (by rw [g2 12 (by omega)]; exact bm) (fun x hx => by cases hx)
  rw [Nat.zero_mul] at y4 y5
  rw [show nI 0 = 0 from rfl, show nI (acR (Wn h d T) (dg C 0 0) 0) = 0 from rfl] at y1
  refine ⟨g', by rw [y1, bnd_s], ?_, y4, y5⟩
  refine I.work I.2.1 (RC_c (y2.1.trans (g1.trans b2)) hR) (fun q hq => ?_)
  rw [y2.2.1 q (by omega) (by omega) (by omega), g2 q (by omega), b1 q (by omega)]
/-! the reference's rows -/
def pL (k : Hp) (B K x n : Nat) : Hp := (fun q j => if q = 16 ∧ n ≤ j ∧ j < K then nI (dg B K x j) else k.1 q j, k.2)
theorem pL_1 {k : Hp} {B K x n q j : Nat} : (pL k B K x n).1 q j = if q = 16 ∧ n ≤ j ∧ j < K then nI (dg B K x j) else k.1 q j := rfl
theorem pL_s {k : Hp} {B K x n : Nat} (hn : n < K) : pI (pL k B K x (n + 1)) 16 n (nI (dg B K x n)) = pL k B K x n := by
  refine Prod.ext ?_ rfl
  funext q j
  rw [pI_1, pL_1, pL_1]
  by_cases e : q = 16 ∧ j = n
  · rw [if_pos e, if_pos (by omega), e.2]
  · rw [if_neg e]
    by_cases e2 : q = 16 ∧ n + 1 ≤ j ∧ j < K
    · rw [if_pos e2, if_pos (by omega)]
    · rw [if_neg e2, if_neg (by omega)]
theorem layRow_L {k : Hp} (hM : RM k) {B K x : Nat} (hB : 0 < K → 0 < B) (hB2 : B < 2 ^ 31) (hK : K ≤ 4) (hx : x < 2 ^ 31) : ∀ (N n : Nat), n ≤ K → n + 1 ≤ N → F_X7_layRow_L10 0 (nI B) N (nI (x / B ^ (K - n))) (nI n - 1) (pL k B K x n) = some ((), pL k B K x 0) := by
  unfold RM at hM
  intro N
  induction N with
  | zero => intro n h1 h2; omega
  | succ N ih =>
    intro n h1 h2
    rw [F_X7_layRow_L10]
    cases n with
    | zero => rw [pm_0, if_pos (by decide)]
    | succ n =>
      have b0 := hB (by omega)
      have hx2 : x / B ^ (K - (n + 1)) < 2 ^ 31 := Nat.lt_of_le_of_lt (Nat.div_le_self _ _) hx
      have a16 := aIn_i (sh := shM) (q := 16) (n := 4) (by decide +kernel) (show n < 4 by omega) (by decide)
      have e2 : (pL k B K x (n + 1)).2 = k.2 := rfl
      have hd : x / B ^ (K - (n + 1)) % B = dg B K x n := by
        unfold dg
        rw [show K - (n + 1) = K - 1 - n by omega]
      have hq : x / B ^ (K - (n + 1)) / B = x / B ^ (K - n) := by
        rw [Nat.div_div_eq_div_mul, ← Nat.pow_succ, show (K - (n + 1)).succ = K - n by omega]
      rw [pm_s, if_neg (nI_pos (by omega))]
      simp only [e2, hM, ob_s, decide_eq_false (nI_ne0 b0 hB2), Bool.not_false, ck_t, a16, nm_x, cl_i (show n < 2 ^ 31 by omega), pk_rem hx2 b0 hB2, hd, pL_s (show n < K by omega), pm_d]
      rw [pk_div hx2 b0 hB2, hq]
      exact ih n (by omega) (by omega)
theorem layRow_x {k : Hp} (hM : RM k) {B K x : Nat} (hB : 0 < K → 0 < B) (hB2 : B < 2 ^ 31) (hK : K ≤ 4) (hk : k.1 0 6 = nI K) (hx : x < 2 ^ 31) : F_X7_layRow 0 (nI x) (nI B) k = some ((), pQ k 16 K (fun j => nI (dg B K x j))) := by
  have h1 := layRow_L hM hB hB2 hK hx FU K (Nat.le_refl _) (by unfold FU; omega)
  unfold F_X7_layRow
  rw [nm_x, hk]
  rw [Nat.sub_self, Nat.pow_zero, Nat.div_one, show pL k B K x K = k from ?_] at h1
  · rw [h1]
    congr 2
    refine Prod.ext ?_ rfl
    funext q j
    rw [pL_1, pQ_1]
    simp only [Nat.zero_le, true_and]
  · refine Prod.ext ?_ rfl
    funext q j
    rw [pL_1, if_neg (by omega)]
theorem rowsOf_L {k : Hp} {B K : Nat} (hK : K ≤ 4) (hk : k.1 0 6 = nI K) : ∀ (N i : Nat), i ≤ K → K + 1 ≤ i + N → F_X7_rowsOf_L4 0 (nI B) N (nI (B ^ i)) (nI i) k = some (nI (B ^ K), k) := by
  intro N
  induction N with
  | zero => intro i h1 h2; omega
  | succ N ih =>
    intro i h1 h2
    rw [F_X7_rowsOf_L4, hk]
    by_cases e : i = K
    · subst e
      rw [if_pos (Int32.le_refl _)]
    · rw [if_neg (nI_ge (show i < K by omega) (by omega))]
      simp only [nm_x, pk_mul, ← Nat.pow_succ, nI_1]
      exact ih (i + 1) (by omega) (by omega)
theorem rowsOf_x {k : Hp} {B K : Nat} (hK : K ≤ 4) (hk : k.1 0 6 = nI K) : F_X7_rowsOf 0 (nI B) k = some (nI (B ^ K), k) := by
  have := rowsOf_L (B := B) hK hk FU 0 (by omega) (by unfold FU; omega)
  rw [Nat.pow_zero, nI_0, show nI 1 = 1 from rfl] at this
  exact this
theorem keepRow_L {k : Hp} (hM : RM k) {K : Nat} (hK : K ≤ 4) (hk : k.1 0 6 = nI K) : ∀ (N i : Nat), i ≤ K → K + 1 ≤ i + N → F_X7_keepRow_L2 0 N (nI i) (pQ k 17 i (k.1 16)) = some ((), pQ k 17 K (k.1 16)) := by
  unfold RM at hM
  intro N
  induction N with
  | zero => intro i h1 h2; omega
  | succ N ih =>
    intro i h1 h2
    rw [F_X7_keepRow_L2, pQ_off (show (0 : Nat) ≠ 17 by decide), hk]
    by_cases e : i = K
    · subst e
      rw [if_pos (Int32.le_refl _)]
    · rw [if_neg (nI_ge (show i < K by omega) (by omega))]
      have a16 := aIn_i (sh := shM) (q := 16) (n := 4) (by decide +kernel) (show i < 4 by omega) (by decide)
      have a17 := aIn_i (sh := shM) (q := 17) (n := 4) (by decide +kernel) (show i < 4 by omega) (by decide)
      have e2 : (pQ k 17 i (k.1 16)).2 = k.2 := rfl
      simp only [e2, hM, ob_s, a16, a17, ck_t, nm_x, cl_i (show i < 2 ^ 31 by omega), nI_1, pQ_off (show (16 : Nat) ≠ 17 by decide), pQ_s]
      exact ih (i + 1) (by omega) (by omega)
theorem keepRow_x {k : Hp} (hM : RM k) {K : Nat} (hK : K ≤ 4) (hk : k.1 0 6 = nI K) : F_X7_keepRow 0 k = some ((), pQ k 17 K (k.1 16)) := by
  have := keepRow_L hM hK hk FU 0 (by omega) (by unfold FU; omega)
  rw [pQ_0, nI_0] at this
  exact this
