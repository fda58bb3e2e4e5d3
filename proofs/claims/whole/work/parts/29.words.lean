def Hn (h : Hp) (d T i : Nat) : Nat := (hsX h d i T (-9)).toNatClampNeg
def wsF (h : Hp) (d T i : Nat) : Int32 := orL (h.1 (d + 7)) (lys (Hn h d T i) T) 0
theorem In0.hn {h k : Hp} {d w C K T M R : Nat} (I : In0 h k d w C K T M R) {i : Nat} (hi : i < K) : Hn h d T i < 2 ^ T ∧ Hn h d T i < 2 ^ 31 ∧ F_X0_talksTo d (nI i) (-9) h = some (nI (Hn h d T i), h) ∧ F_X7_heardBy 0 (nI i) k = some (nI (Hn h d T i), k) := by
  obtain ⟨H, h1, h2, h3, h4, h5⟩ := I.hear hi
  have e : Hn h d T i = H := by unfold Hn; rw [h3, cl_i h2]
  rw [e]
  exact ⟨h1, h2, h4, h5⟩
theorem In0.down {h k : Hp} {d w C K T M R : Nat} (I : In0 h k d w C K T M R) {i : Nat} (hi : i < K) {l : Nat} (hl : l < 2 ^ 31) : F_X0_wordsDown d (nI (Hn h d T i)) (nI l) h = some (orL (h.1 (d + 7)) ((lys (Hn h d T i) T).take l) 0, h) ∧ F_X7_wordsOf 0 (nI (Hn h d T i)) (nI l) k = some (orL (h.1 (d + 7)) ((lys (Hn h d T i) T).take l) 0, k) := by
  obtain ⟨h1, h2, h3, h4⟩ := I.hn hi
  refine ⟨wordsDown_x (I.2.2.1.dr I.1) (SD_of I.1) I.T.1 I.T.2.2 h2 hl, ?_⟩
  rw [wordsOf_x I.2.2.2.1 I.T.2.1 I.T.2.2 h1 hl]
  rw [orL_c _ _ (fun t ht => I.wd t (List.mem_of_mem_take ht))]
theorem take8 {H T : Nat} (hT : T ≤ 8) : (lys H T).take 8 = lys H T := List.take_of_length_le (Nat.le_trans (lys_le H T) hT)
theorem In0.wordsTo {h k : Hp} {d w C K T M R : Nat} (I : In0 h k d w C K T M R) {i : Nat} (hi : i < K) : F_X0_wordsTo d (nI i) (-9) h = some (wsF h d T i, h) ∧ F_X7_wordsOf 0 (nI (Hn h d T i)) 8 k = some (wsF h d T i, k) := by
  obtain ⟨h1, h2, h3, h4⟩ := I.hn hi
  obtain ⟨g1, g2⟩ := I.down hi (l := 8) (by decide)
  rw [take8 I.T.2.2] at g1 g2
  have g1' : F_X0_wordsDown d (nI (Hn h d T i)) 8 h = some (orL (h.1 (d + 7)) (lys (Hn h d T i) T) 0, h) := g1
  refine ⟨?_, g2⟩
  unfold F_X0_wordsTo
  simp only [h3, bnd_s, g1']
  rfl
def cmL (ws : Nat → Int32) : Nat → Nat → Int32 → Int32
  | 0, _, s => s
  | n + 1, i, s => cmL ws n (i + 1) (s &&& ws i)
theorem common_X {h k : Hp} {d w C K T M R : Nat} (I : In0 h k d w C K T M R) : ∀ (N i : Nat) (s : Int32), i ≤ K → K + 1 ≤ i + N → F_X6_common_L16 0 N s (nI i) h = some (cmL (wsF h d T) (K - i) i s, h) := by
  have hS := SD_of I.1
  have hR := I.2.2.1
  have hD := hR.dr I.1
  have hM := I.2.2.2.1
  unfold RC at hR
  unfold SD at hS
  unfold DR at hD
  unfold RM at hM
  obtain ⟨k1, -, k3⟩ := I.K
  intro N
  induction N with
  | zero => intro i s h1 h2; omega
  | succ N ih =>
    intro i s h1 h2
    rw [F_X6_common_L16]
    simp only [hR, gO_s, hS, ck_t, k1]
    by_cases e : i = K
    · subst e
      rw [if_pos (Int32.le_refl _), Nat.sub_self]
      rfl
    · rw [if_neg (nI_ge (show i < K by omega) (by omega)), show K - i = (K - (i + 1)) + 1 by omega, cmL]
      simp only [(I.wordsTo (show i < K by omega)).1, bnd_s, nm_x, nI_1]
      exact ih (i + 1) _ (by omega) (by omega)
theorem common_M {h k : Hp} {d w C K T M R : Nat} (I : In0 h k d w C K T M R) : ∀ (N i : Nat) (s : Int32), i ≤ K → K + 1 ≤ i + N → F_X7_common_L16 0 N s (nI i) k = some (cmL (wsF h d T) (K - i) i s, k) := by
  obtain ⟨-, k2, k3⟩ := I.K
  intro N
  induction N with
  | zero => intro i s h1 h2; omega
  | succ N ih =>
    intro i s h1 h2
    rw [F_X7_common_L16, k2]
    by_cases e : i = K
    · subst e
      rw [if_pos (Int32.le_refl _), Nat.sub_self]
      rfl
    · rw [if_neg (nI_ge (show i < K by omega) (by omega)), show K - i = (K - (i + 1)) + 1 by omega, cmL]
      simp only [(I.hn (show i < K by omega)).2.2.2, (I.wordsTo (show i < K by omega)).2, bnd_s, nm_x, nI_1]
      exact ih (i + 1) _ (by omega) (by omega)
theorem noDairy_x {h k : Hp} {d w C K T M R : Nat} (I : In0 h k d w C K T M R) : F_X6_hasNoDairy 0 h = some (if T = 0 then 1 else 0, h) ∧ (k.1 0 7 = 0) = (T = 0) := by
  have hS := SD_of I.1
  have hR := I.2.2.1
  have hD := hR.dr I.1
  have hM := I.2.2.2.1
  unfold RC at hR
  unfold SD at hS
  unfold DR at hD
  unfold RM at hM
  obtain ⟨t1, t2, t3⟩ := I.T
  refine ⟨?_, ?_⟩
  · unfold F_X6_hasNoDairy
    simp only [hR, gO_s, hS, ck_t, t1]
    by_cases e : T = 0
    · subst e
      rw [if_pos rfl, if_pos (by decide)]
    · rw [if_neg e, if_neg (nI_ne0 (by omega) (by omega))]
  · rw [t2]
    apply propext
    constructor
    · intro z
      exact (nI_eq (b := 0) (by omega) (by decide)).mp z
    · intro z
      rw [z]
      rfl
theorem st_common : SP Inv (fun h => F_X6_common 0 h) (fun k => F_X7_common 0 k) := by
  rintro h k ⟨d, w, C, K, T, M, R, I⟩
  obtain ⟨n1, n2⟩ := noDairy_x I
  have hK := I.K.2.2
  have g1 := common_X I FU 0 255 (by omega) (by unfold FU; omega)
  have g2 := common_M I FU 0 255 (by omega) (by unfold FU; omega)
  rw [nI_0] at g1 g2
  dsimp only
  unfold F_X6_common F_X7_common
  rw [n1]
  simp only [bnd_s, n2, g1, g2]
  by_cases e : T = 0
  · simp only [if_pos e, if_neg (show ¬ (1 : Int32) = 0 by decide)]
    exact ⟨-3, h, k, rfl, rfl, d, w, C, K, T, M, R, I⟩
  · simp only [if_neg e, if_true]
    exact ⟨_, h, k, rfl, rfl, d, w, C, K, T, M, R, I⟩
/-! one alone -/
def alL (ws : Nat → Int32) (me : Nat) : Nat → Nat → Int32 → Int32
  | 0, _, s => s
  | n + 1, i, s => if i = me then alL ws me n (i + 1) s else alL ws me n (i + 1) (s &&& (ws i ^^^ (-1)))
theorem alone_X {h k : Hp} {d w C K T M R : Nat} (I : In0 h k d w C K T M R) {me : Nat} (hme : me < K) : ∀ (N i : Nat) (s : Int32), i ≤ K → K + 1 ≤ i + N → F_X6_alone_L23 0 (nI me) N s (nI i) h = some (alL (wsF h d T) me (K - i) i s, h) := by
  have hS := SD_of I.1
  have hR := I.2.2.1
  have hD := hR.dr I.1
  have hM := I.2.2.2.1
  unfold RC at hR
  unfold SD at hS
  unfold DR at hD
  unfold RM at hM
  obtain ⟨k1, -, k3⟩ := I.K
  intro N
  induction N with
  | zero => intro i s h1 h2; omega
  | succ N ih =>
    intro i s h1 h2
    rw [F_X6_alone_L23]
    simp only [hR, gO_s, hS, ck_t, k1]
    by_cases e : i = K
    · subst e
      rw [if_pos (Int32.le_refl _), Nat.sub_self]
      rfl
    · rw [if_neg (nI_ge (show i < K by omega) (by omega)), show K - i = (K - (i + 1)) + 1 by omega, alL]
      simp only [(I.wordsTo (show i < K by omega)).1, bnd_s, nm_x, nI_1, nI_eq (show i < 2 ^ 31 by omega) (show me < 2 ^ 31 by omega)]
      by_cases e2 : i = me
      · simp only [if_pos e2]
        exact ih (i + 1) _ (by omega) (by omega)
      · simp only [if_neg e2]
        exact ih (i + 1) _ (by omega) (by omega)
theorem byte_and {a : Nat} (h : a < 256) : nI a &&& 255 = nI a := by
  have : (255 : Int32) = nI 255 := rfl
  rw [this, and_nI]
  congr 1
  exact Nat.and_two_pow_sub_one_of_lt_two_pow (n := 8) h
theorem wd8 {h k : Hp} {d w C K T M R : Nat} (I : In0 h k d w C K T M R) : ∀ (L : List Nat) (S : Nat), (∀ t, t ∈ L → t < T) → S < 256 → ∃ S', S' < 256 ∧ orL (h.1 (d + 7)) L (nI S) = nI S' := by
  intro L
  induction L with
  | nil => intro S _ hS; exact ⟨S, hS, rfl⟩
  | cons t L ih =>
    intro S hL hS
    obtain ⟨x, hx, ex⟩ := (I.talk (hL t List.mem_cons_self)).2.2.1
    rw [orL, ex, shl_nI x (by omega), or_nI]
    refine ih _ (fun y hy => hL y (List.mem_cons_of_mem _ hy)) (Nat.or_lt_two_pow (n := 8) hS ?_)
    exact Nat.pow_lt_pow_right (by decide) hx
theorem wsF_b {h k : Hp} {d w C K T M R : Nat} (I : In0 h k d w C K T M R) (i : Nat) : ∃ S, S < 256 ∧ wsF h d T i = nI S := wd8 I (lys (Hn h d T i) T) 0 (fun _ ht => lys_lt ht) (by decide)
theorem and_b {S : Nat} (hS : S < 256) (x : Int32) : ∃ S', S' < 256 ∧ nI S &&& x = nI S' := by
  refine ⟨(nI S &&& x).toBitVec.toNat, ?_, ?_⟩
  · rw [Int32.toBitVec_and, BitVec.toNat_and]
    have : (nI S).toBitVec.toNat = S := pk_tn (by omega)
    rw [this]
    exact Nat.lt_of_le_of_lt Nat.and_le_left hS
  · apply Int32.toBitVec_inj.mp
    show _ = BitVec.ofNat 32 _
    rw [BitVec.ofNat_toNat, BitVec.setWidth_eq]
theorem alone_M {h k : Hp} {d w C K T M R : Nat} (I : In0 h k d w C K T M R) {me : Nat} (hme : me < K) : ∀ (N i S : Nat), S < 256 → i ≤ K → K + 1 ≤ i + N → F_X7_alone_L24 0 (nI me) N (nI S) (nI i) k = some (alL (wsF h d T) me (K - i) i (nI S), k) := by
  obtain ⟨-, k2, k3⟩ := I.K
  intro N
  induction N with
  | zero => intro i S hS h1 h2; omega
  | succ N ih =>
    intro i S hS h1 h2
    rw [F_X7_alone_L24, k2]
    by_cases e : i = K
    · subst e
      rw [if_pos (Int32.le_refl _), Nat.sub_self]
      rfl
    · rw [if_neg (nI_ge (show i < K by omega) (by omega)), show K - i = (K - (i + 1)) + 1 by omega, alL]
      simp only [(I.hn (show i < K by omega)).2.2.2, (I.wordsTo (show i < K by omega)).2, bnd_s, nm_x, nI_1, nI_eq (show i < 2 ^ 31 by omega) (show me < 2 ^ 31 by omega), byte_and hS]
      by_cases e2 : i = me
      · simp only [if_pos e2]
        exact ih (i + 1) _ hS (by omega) (by omega)
      · simp only [if_neg e2]
        obtain ⟨S', hS', eS⟩ := and_b hS (wsF h d T i ^^^ (-1))
        rw [eS]
        exact ih (i + 1) _ hS' (by omega) (by omega)
theorem st_alone : ∀ a : Int32, SP Inv (fun h => F_X6_alone 0 a h) (fun k => F_X7_alone 0 a k) := by
  rintro a h k ⟨d, w, C, K, T, M, R, I⟩
  have hS := SD_of I.1
  have hR := I.2.2.1
  have hD := hR.dr I.1
  have hM := I.2.2.2.1
  unfold RC at hR
  unfold SD at hS
  unfold DR at hD
  unfold RM at hM
  have hK := I.K.2.2
  dsimp only
  unfold F_X6_alone F_X7_alone
  rcases cheese_q I a with ⟨e1, e2⟩ | ⟨i, hi, rfl, e1, e2⟩
  · rw [e1, e2]
    simp only [bnd_s, if_true]
    exact ⟨-1, h, k, rfl, rfl, d, w, C, K, T, M, R, I⟩
  rw [e1, e2]
  obtain ⟨S, hS2, eS⟩ := wsF_b I i
  have g1 := alone_X I hi FU 0 (wsF h d T i) (by omega) (by unfold FU; omega)
  have g2 := alone_M I hi FU 0 S hS2 (by omega) (by unfold FU; omega)
  rw [← eS] at g2
  rw [nI_0] at g1 g2
  simp only [bnd_s, if_neg (show ¬ (1 : Int32) = 0 by decide), hR, gO_s, hS, ck_t, (I.wordsTo hi).1, (I.wordsTo hi).2, (I.hn hi).2.2.2, g1, g2]
  exact ⟨_, h, k, rfl, rfl, d, w, C, K, T, M, R, I⟩
