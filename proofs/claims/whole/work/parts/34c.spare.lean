/-- what is had of cheese i by a cut of depth e; how many layers it has -/
def Dn (h : Hp) (d T i e : Nat) : Nat := (orL (h.1 (d + 7)) ((lys (Hn h d T i) T).take e) 0).toNatClampNeg
def Ln (h : Hp) (d T i : Nat) : Nat := (lys (Hn h d T i) T).length
theorem In0.dn {h k : Hp} {d w C K T M R : Nat} (I : In0 h k d w C K T M R) (i e : Nat) : orL (h.1 (d + 7)) ((lys (Hn h d T i) T).take e) 0 = nI (Dn h d T i e) ∧ Dn h d T i e < 256 := by
  obtain ⟨S, s1, s2⟩ := wd8 I ((lys (Hn h d T i) T).take e) 0 (fun t ht => lys_lt (List.mem_of_mem_take ht)) (by decide)
  rw [nI_0] at s2
  have : Dn h d T i e = S := by
    unfold Dn
    rw [s2, cl_i (show S < 2 ^ 31 by omega)]
  rw [this]
  exact ⟨s2, s1⟩
theorem In0.dn_t {h k : Hp} {d w C K T M R : Nat} (I : In0 h k d w C K T M R) (i e : Nat) {v : Nat} (hv : v < 8) : (Dn h d T i e).testBit v = ((lys (Hn h d T i) T).take e).any (fun t => decide (h.1 (d + 7) t = nI v)) := by
  obtain ⟨S, s1, s2, s3⟩ := wbit I hv ((lys (Hn h d T i) T).take e) 0 (fun t ht => lys_lt (List.mem_of_mem_take ht)) (by decide)
  rw [nI_0, (I.dn i e).1] at s2
  have : Dn h d T i e = S := (nI_eq (by have := (I.dn i e).2; omega) (by omega)).mp s2
  rw [this, ← bitQ_t, s3, bitQ_t, Nat.zero_testBit, Bool.false_or]
theorem In0.dn_m {h k : Hp} {d w C K T M R : Nat} (I : In0 h k d w C K T M R) (i : Nat) {e e' : Nat} (he : e ≤ e') : SubT (Dn h d T i e) (Dn h d T i e') := by
  intro v hv
  have h8 : v < 8 := by
    rcases Nat.lt_or_ge v 8 with q | q
    · exact q
    · rw [Nat.testBit_lt_two_pow (Nat.lt_of_lt_of_le (show Dn h d T i e < 2 ^ 8 from (I.dn i e).2) (Nat.pow_le_pow_right (n := 2) (by decide) q))] at hv
      cases hv
  rw [I.dn_t i e h8, List.any_eq_true] at hv
  rw [I.dn_t i e' h8, List.any_eq_true]
  obtain ⟨t, ht, hp⟩ := hv
  refine ⟨t, ?_, hp⟩
  have : ((lys (Hn h d T i) T).take e').take e = (lys (Hn h d T i) T).take e := by rw [List.take_take, Nat.min_eq_left he]
  rw [← this] at ht
  exact List.mem_of_mem_take ht
theorem pcF_hi {H T : Nat} (hH : H < 2 ^ T) : ∀ m, pcF (T + m) H = pcF T H := by
  intro m
  induction m with
  | zero => rfl
  | succ m ih =>
    rw [show T + (m + 1) = (T + m) + 1 by omega, pcF_top, ih, Nat.div_eq_of_lt (Nat.lt_of_lt_of_le hH (Nat.pow_le_pow_right (by decide) (by omega))), Nat.zero_mod, Nat.add_zero]
/-- how deep: the depths up to it are good -/
def dpF (ok : Nat → Bool) : Nat → Nat → Nat
  | 0, e => e
  | n + 1, e => if ok (e + 1) then dpF ok n (e + 1) else e
theorem dpF_p {ok : Nat → Bool} : ∀ n e, e ≤ dpF ok n e ∧ dpF ok n e ≤ e + n ∧ (∀ x, e < x → x ≤ dpF ok n e → ok x = true) ∧ (dpF ok n e = e + n ∨ ok (dpF ok n e + 1) = false) := by
  intro n
  induction n with
  | zero => intro e; exact ⟨Nat.le_refl _, Nat.le_refl _, fun x h1 h2 => absurd h2 (by rw [dpF]; omega), Or.inl rfl⟩
  | succ n ih =>
    intro e
    rw [dpF]
    cases h : ok (e + 1) with
    | false => exact ⟨Nat.le_refl _, by simp, fun x h1 h2 => absurd h2 (by simp; omega), Or.inr h⟩
    | true =>
      obtain ⟨a1, a2, a3, a4⟩ := ih (e + 1)
      rw [if_pos rfl]
      refine ⟨by omega, by omega, fun x h1 h2 => ?_, ?_⟩
      · by_cases q : x = e + 1
        · rw [q]
          exact h
        · exact a3 x (by omega) h2
      · rcases a4 with q | q
        · exact Or.inl (by omega)
        · exact Or.inr q
def okN (h : Hp) (d T B i e : Nat) : Bool := decide (Dn h d T i e &&& B = 0)
def dpN (h : Hp) (d T B i : Nat) : Nat := dpF (okN h d T B i) (Ln h d T i) 0
theorem In0.ln {h k : Hp} {d w C K T M R : Nat} (I : In0 h k d w C K T M R) (i : Nat) : Ln h d T i ≤ 8 := Nat.le_trans (lys_le _ _) I.T.2.2
def MsC (b g : Hp) (h : Hp) (d T i e : Nat) : Prop := g.2 = b.2 ∧ (∀ q, q ≠ 5 + i → q ≠ 9 → g.1 q = b.1 q) ∧ (∀ j, j ≠ i → g.1 9 j = b.1 9 j) ∧ g.1 9 i = nI e ∧ ∀ x, x ≤ e → g.1 (5 + i) x = nI (Dn h d T i x)
theorem down_g {h k g : Hp} {d w C K T M R : Nat} (I : In0 h k d w C K T M R) (e1 : g.2 = h.2) (e2 : ∀ q, q < 21 → g.1 (d + q) = h.1 (d + q)) {i : Nat} (hi : i < K) {l : Nat} (hl : l < 2 ^ 31) : F_X0_wordsDown d (nI (Hn h d T i)) (nI l) g = some (nI (Dn h d T i l), g) := by
  have hD : DR g d := (RC_c e1 I.2.2.1).dr I.1
  have hT : g.1 d 2 = nI T := by
    have := e2 0 (by decide)
    rw [Nat.add_zero] at this
    rw [this]
    exact I.T.1
  obtain ⟨h1, h2, -, -⟩ := I.hn hi
  have x2 := wordsDown_x hD (SD_of I.1) (l := l) hT I.T.2.2 h2 hl
  rw [e2 7 (by decide), (I.dn i l).1] at x2
  exact x2
theorem meas_L {h k b : Hp} {d w C K T M R : Nat} (I : In0 h k d w C K T M R) (b2 : b.2 = h.2) (b1 : ∀ q, q < 21 → b.1 (d + q) = h.1 (d + q)) {i : Nat} (hi : i < K) {B : Nat} (hB : B < 256) : ∀ (n e N : Nat) (g : Hp), e + n = Ln h d T i → n + 2 ≤ N → MsC b g h d T i e → ∃ g', F_X4_measure_L19 2 d (nI i) (nI B) (nI (Hn h d T i)) (nI (Ln h d T i)) N (nI (e + 1)) g = some ((), g') ∧ MsC b g' h d T i (dpF (okN h d T B i) n e) := by
  have hK := I.K.2.2
  have hL := I.ln i
  have hdd : 22 < d := by have := I.1; omega
  have hR := I.2.2.1
  have r2 : h.2 2 2 = some 4 := by unfold RC at hR; simp only [hR]
  have r3 : h.2 2 3 = some 9 := by unfold RC at hR; simp only [hR]
  have r6 : ∀ k, k < 4 → h.2 4 k = some (5 + k) := by
    unfold RC at hR
    intro k hk
    have : k = 0 ∨ k = 1 ∨ k = 2 ∨ k = 3 := by omega
    rcases this with rfl | rfl | rfl | rfl <;> simp only [hR]
  have a9 := aIn_i (sh := shC) (q := 9) (n := 4) (by decide +kernel) (show i < 4 by omega) (by decide)
  have a4 := aRn_i (kd := 3) (sh := shC) (q := 4) (n := 4) (by decide +kernel) (show i < 4 by omega) (by decide)
  intro n
  induction n with
  | zero =>
    intro e N g he hN hg
    obtain ⟨N, rfl⟩ : ∃ M, N = M + 1 := ⟨N - 1, by omega⟩
    rw [F_X4_measure_L19, if_pos (nI_lt (by omega) (by omega))]
    exact ⟨g, rfl, hg⟩
  | succ n ih =>
    intro e N g he hN hg
    obtain ⟨N, rfl⟩ : ∃ M, N = M + 1 := ⟨N - 1, by omega⟩
    obtain ⟨g1, g2, g3, g4, g5⟩ := hg
    rw [F_X4_measure_L19, if_neg (nI_nlt (by omega) (by omega)), down_g I (g1.trans b2) (fun q hq => by rw [g2 (d + q) (by omega) (by omega), b1 q hq]) hi (show e + 1 < 2 ^ 31 by omega), bnd_s, and_nI, dpF]
    have hw := (I.dn i (e + 1)).2
    have ha : Dn h d T i (e + 1) &&& B < 256 := Nat.lt_of_le_of_lt Nat.and_le_left hw
    by_cases c : Dn h d T i (e + 1) &&& B = 0
    · have hok : okN h d T B i (e + 1) = true := decide_eq_true c
      have a5 := aIn_i (s5 i (by omega)) (show e + 1 < 9 by omega) (by decide)
      have q2 : ∀ q j v, (pI g q j v).2 = h.2 := fun q j v => g1.trans b2
      rw [c, if_pos (show nI 0 = 0 from rfl), hok, if_pos rfl]
      simp only [g1, b2, r2, r3, r6 i (by omega), ob_s, a4, a5, a9, ck_t, nm_x, q2, cl_i (show i < 2 ^ 31 by omega), cl_i (show e + 1 < 2 ^ 31 by omega), nI_1]
      refine ih (e + 1) N _ (by omega) (by omega) ⟨g1, fun q q1 q2 => ?_, fun j hj => ?_, ?_, fun x hx => ?_⟩
      · rw [← g2 q q1 q2]
        funext j
        rw [pI_1, if_neg (fun z => q2 z.1), pI_1, if_neg (fun z => q1 z.1)]
      · rw [pI_1, if_neg (fun z => hj z.2), pI_1, if_neg (fun z => absurd z.1 (by omega)), g3 j hj]
      · rw [pI_1, if_pos ⟨rfl, rfl⟩]
      · rw [pI_1, if_neg (fun z => absurd z.1 (by omega)), pI_1]
        by_cases q : x = e + 1
        · rw [if_pos ⟨rfl, q⟩, q]
        · rw [if_neg (fun z => q z.2)]
          exact g5 x (by omega)
    · have hok : okN h d T B i (e + 1) = false := decide_eq_false c
      rw [if_neg (nI_ne0 (by omega) (by omega)), hok, if_neg (by decide)]
      exact ⟨g, rfl, g1, g2, g3, g4, g5⟩
theorem Dn_0 (h : Hp) (d T i : Nat) : Dn h d T i 0 = 0 := by
  unfold Dn
  rw [List.take_zero]
  rfl
theorem meas_x {h k b : Hp} {d w C K T M R : Nat} (I : In0 h k d w C K T M R) (b2 : b.2 = h.2) (b1 : ∀ q, q < 21 → b.1 (d + q) = h.1 (d + q)) {i : Nat} (hi : i < K) {B : Nat} (hB : B < 256) : ∃ g', F_X4_measure 2 d (nI i) (nI B) b = some ((), g') ∧ MsC b g' h d T i (dpN h d T B i) := by
  have hK := I.K.2.2
  have hL := I.ln i
  have hdd : 22 < d := by have := I.1; omega
  have hR := I.2.2.1
  have r2 : h.2 2 2 = some 4 := by unfold RC at hR; simp only [hR]
  have r3 : h.2 2 3 = some 9 := by unfold RC at hR; simp only [hR]
  have r6 : ∀ k, k < 4 → h.2 4 k = some (5 + k) := by
    unfold RC at hR
    intro k hk
    have : k = 0 ∨ k = 1 ∨ k = 2 ∨ k = 3 := by omega
    rcases this with rfl | rfl | rfl | rfl <;> simp only [hR]
  have a9 := aIn_i (sh := shC) (q := 9) (n := 4) (by decide +kernel) (show i < 4 by omega) (by decide)
  have a4 := aRn_i (kd := 3) (sh := shC) (q := 4) (n := 4) (by decide +kernel) (show i < 4 by omega) (by decide)
  have a5 : aIn shC (5 + i) 0 = true := aIn_i (i := 0) (s5 i (by omega)) (by decide) (by decide)
  obtain ⟨h1, h2, -, -⟩ := I.hn hi
  have hD : DR b d := (RC_c b2 I.2.2.1).dr I.1
  have hT : b.1 d 2 = nI T := by
    have := b1 0 (by decide)
    rw [Nat.add_zero] at this
    rw [this]
    exact I.T.1
  have x1 := talksTo_x hD (SD_of I.1) (show i < 4 by omega) hT I.T.2.2 (-9)
  have h3 : hsX h d i T (-9) = nI (Hn h d T i) := by
    have := (I.hn hi).2.2.1
    rw [I.talks hi] at this
    exact congrArg Prod.fst (Option.some.inj this)
  rw [hsX_c b1 (show i < 4 by omega), h3] at x1
  have hp : 2 ^ T ≤ 2 ^ 8 := Nat.pow_le_pow_right (by decide) I.T.2.2
  have hpc : pcF 8 (Hn h d T i) = Ln h d T i := by
    unfold Ln
    rw [lys_len, ← pcF_hi h1 (8 - T), show T + (8 - T) = 8 by have := I.T.2.2; omega]
  unfold F_X4_measure
  rw [x1, bnd_s, bc_x _ (by omega), bnd_s, hpc]
  have hu : F_X4_measure_L19 2 d (nI i) (nI B) (nI (Hn h d T i)) (nI (Ln h d T i)) FU 0 b = F_X4_measure_L19 2 d (nI i) (nI B) (nI (Hn h d T i)) (nI (Ln h d T i)) 99999 (nI (0 + 1)) (pI (pI b (5 + i) 0 0) 9 i 0) := by
    rw [show FU = 99999 + 1 from rfl, F_X4_measure_L19]
    have hd0 := down_g I b2 b1 hi (l := 0) (by decide)
    rw [Dn_0, nI_0] at hd0
    have q2 : ∀ q j v, (pI b q j v).2 = h.2 := fun q j v => b2
    rw [if_neg (show ¬ nI (Ln h d T i) < 0 from nI_pos (by omega)), hd0, bnd_s, if_pos (show (0 : Int32) &&& nI B = 0 by rw [show (0 : Int32) = nI 0 from rfl, and_nI, Nat.zero_and])]
    simp only [b2, r2, r3, r6 i (by omega), ob_s, a4, a5, a9, ck_t, nm_x, q2, cl_i (show i < 2 ^ 31 by omega)]
    rfl
  rw [hu]
  refine meas_L I b2 b1 hi hB (Ln h d T i) 0 99999 _ (by omega) (by omega) ⟨rfl, fun q q1 q2 => ?_, fun j hj => ?_, ?_, fun x hx => ?_⟩
  · funext j
    rw [pI_1, if_neg (fun z => q2 z.1), pI_1, if_neg (fun z => q1 z.1)]
  · rw [pI_1, if_neg (fun z => hj z.2), pI_1, if_neg (fun z => absurd z.1 (by omega))]
  · rw [pI_1, if_pos ⟨rfl, rfl⟩]
    rfl
  · have : x = 0 := by omega
    subst this
    rw [pI_1, if_neg (fun z => absurd z.1 (by omega)), pI_1, if_pos ⟨rfl, rfl⟩, Dn_0]
    rfl
def wiN (h : Hp) (d T B K i : Nat) : Nat := orT (fun j => Dn h d T j (dpN h d T B j)) (K - i) i
def MfC (b g h : Hp) (d T B K i : Nat) : Prop := g.2 = b.2 ∧ (∀ q, ¬ (5 ≤ q ∧ q < 11) → g.1 q = b.1 q) ∧ (∀ j, i ≤ j → j < K → g.1 9 j = nI (dpN h d T B j) ∧ ∀ x, x ≤ dpN h d T B j → g.1 (5 + j) x = nI (Dn h d T j x)) ∧ ∀ j, i ≤ j → j ≤ K → g.1 10 j = nI (wiN h d T B K j)
theorem sfind_L {h k b : Hp} {d w C K T M R : Nat} (I : In0 h k d w C K T M R) (b2 : b.2 = h.2) (b1 : ∀ q, q < 21 → b.1 (d + q) = h.1 (d + q)) {B : Nat} (hB : B < 256) (kk : Hp → Option (Unit × Hp)) : ∀ (i N : Nat) (g : Hp), i ≤ K → i + 1 ≤ N → MfC b g h d T B K i → ∃ g', F_X4_find_L37 kk 2 d (nI B) N (nI i - 1) g = kk g' ∧ MfC b g' h d T B K 0 := by
  have hK := I.K.2.2
  have hdd : 22 < d := by have := I.1; omega
  have hR := I.2.2.1
  have r2 : h.2 2 2 = some 4 := by unfold RC at hR; simp only [hR]
  have r3 : h.2 2 3 = some 9 := by unfold RC at hR; simp only [hR]
  have r4 : h.2 2 4 = some 10 := by unfold RC at hR; simp only [hR]
  have r6 : ∀ k, k < 4 → h.2 4 k = some (5 + k) := by
    unfold RC at hR
    intro k hk
    have : k = 0 ∨ k = 1 ∨ k = 2 ∨ k = 3 := by omega
    rcases this with rfl | rfl | rfl | rfl <;> simp only [hR]
  intro i
  induction i with
  | zero =>
    intro N g h1 h2 hg
    obtain ⟨N, rfl⟩ : ∃ M, N = M + 1 := ⟨N - 1, by omega⟩
    rw [F_X4_find_L37, pm_0, if_pos (by decide)]
    exact ⟨g, rfl, hg⟩
  | succ i ih =>
    intro N g h1 h2 hg
    obtain ⟨N, rfl⟩ : ∃ M, N = M + 1 := ⟨N - 1, by omega⟩
    obtain ⟨g1, g2, g3, g4⟩ := hg
    have hi : i < K := by omega
    obtain ⟨m, x1, x2, x3, x4, x5, x6⟩ := meas_x I (b := g) (g1.trans b2) (fun q hq => by rw [g2 (d + q) (by omega), b1 q hq]) hi hB
    have hdp : dpN h d T B i ≤ 8 := by
      have := (dpF_p (ok := okN h d T B i) (Ln h d T i) 0).2.1
      have := I.ln i
      unfold dpN
      omega
    rw [F_X4_find_L37, pm_s, if_neg (nI_pos (by omega)), x1, bnd_s]
    have m2 : m.2 = h.2 := x2.trans (g1.trans b2)
    have a10 := aIn_i (sh := shC) (q := 10) (n := 5) (by decide +kernel) (show i < 5 by omega) (by decide)
    have a10' := aIn_i (sh := shC) (q := 10) (n := 5) (by decide +kernel) (show i + 1 < 5 by omega) (by decide)
    have a9 := aIn_i (sh := shC) (q := 9) (n := 4) (by decide +kernel) (show i < 4 by omega) (by decide)
    have a4 := aRn_i (kd := 3) (sh := shC) (q := 4) (n := 4) (by decide +kernel) (show i < 4 by omega) (by decide)
    have a5 := aIn_i (s5 i (by omega)) (show dpN h d T B i < 9 by omega) (by decide)
    have w10 : m.1 10 (i + 1) = nI (wiN h d T B K (i + 1)) := by
      rw [x3 10 (by omega) (by decide)]
      exact g4 (i + 1) (by omega) (by omega)
    have hwi : wiN h d T B K (i + 1) ||| Dn h d T i (dpN h d T B i) = wiN h d T B K i := by
      unfold wiN
      rw [show K - i = (K - (i + 1)) + 1 by omega, orT]
    simp only [m2, r2, r3, r4, r6 i (by omega), ob_s, nI_1, a10, a10', a4, a5, a9, ck_t, nm_x, cl_i (show i < 2 ^ 31 by omega), cl_i (show i + 1 < 2 ^ 31 by omega), x5, cl_i (show dpN h d T B i < 2 ^ 31 by omega), w10, x6 _ (Nat.le_refl _), or_nI, hwi, pm_d]
    refine ih N _ (by omega) (by omega) ⟨x2.trans g1, fun q hq => ?_, fun j hj hj2 => ?_, fun j hj hj2 => ?_⟩
    · rw [← g2 q hq, ← x3 q (by omega) (by omega)]
      funext j
      rw [pI_1, if_neg (by omega)]
    · by_cases q : j = i
      · subst q
        refine ⟨by rw [pI_1, if_neg (fun z => absurd z.1 (by decide))]; exact x5, fun x hx => ?_⟩
        rw [pI_1, if_neg (fun z => absurd z.1 (by omega))]
        exact x6 x hx
      · obtain ⟨y1, y2⟩ := g3 j (by omega) hj2
        refine ⟨by rw [pI_1, if_neg (fun z => absurd z.1 (by decide)), x4 j q]; exact y1, fun x hx => ?_⟩
        rw [pI_1, if_neg (fun z => absurd z.1 (by omega)), x3 (5 + j) (by omega) (by omega)]
        exact y2 x hx
    · rw [pI_1]
      by_cases q : j = i
      · rw [if_pos ⟨rfl, q⟩, q]
      · rw [if_neg (fun z => q z.2), x3 10 (by omega) (by decide)]
        exact g4 j (by omega) hj2
theorem sfind_x {h k : Hp} {d w C K T M R : Nat} (I : In0 h k d w C K T M R) {A B : Nat} (hA : A < 256) (hB : B < 256) : ∃ g s, F_X4_find 2 d (nI A) (nI B) h = some ((), g) ∧ In0 g k d w C K T M R ∧ fwS2 K g s ∧ Opt (VA (Dn h d T) (dpN h d T B) A K) (smX K) (9 ^ K) s := by
  have hdd : 22 < d ∧ d < 46 := by have := I.1; omega
  have hK := I.K.2.2
  have hR := I.2.2.1
  have r4 : h.2 2 4 = some 10 := by unfold RC at hR; simp only [hR]
  have r6 : ∀ k, k < 4 → h.2 4 k = some (5 + k) := by
    unfold RC at hR
    intro k hk
    have : k = 0 ∨ k = 1 ∨ k = 2 ∨ k = 3 := by omega
    rcases this with rfl | rfl | rfl | rfl <;> simp only [hR]
  unfold F_X4_find
  rw [nm_x, nm_x, nm_x, I.K.1]
  have v6 : (pI (pI (pI h 2 6 (nI K)) 2 7 (nI A)) 2 1 (-9)).1 2 6 = nI K := by rw [pI_1, if_neg (by decide), pI_1, if_neg (by decide), pI_1, if_pos (by decide)]
  have v7 : (pI (pI (pI h 2 6 (nI K)) 2 7 (nI A)) 2 1 (-9)).1 2 7 = nI A := by rw [pI_1, if_neg (by decide), pI_1, if_pos (by decide)]
  have v1 : (pI (pI (pI h 2 6 (nI K)) 2 7 (nI A)) 2 1 (-9)).1 2 1 = -9 := by rw [pI_1, if_pos (by decide)]
  have vr : ∀ q, q ≠ 2 → (pI (pI (pI h 2 6 (nI K)) 2 7 (nI A)) 2 1 (-9)).1 q = h.1 q := by
    intro q hq
    funext j
    rw [pI_1, if_neg (fun z => hq z.1), pI_1, if_neg (fun z => hq z.1), pI_1, if_neg (fun z => hq z.1)]
  have v2 : (pI (pI (pI h 2 6 (nI K)) 2 7 (nI A)) 2 1 (-9)).2 = h.2 := rfl
  generalize pI (pI (pI h 2 6 (nI K)) 2 7 (nI A)) 2 1 (-9) = c at v1 v2 v6 v7 vr
  have a10 := aIn_i (sh := shC) (q := 10) (n := 5) (by decide +kernel) (show K < 5 by omega) (by decide)
  have w6 : (pI c 10 K 0).1 2 6 = nI K := by rw [pI_1, if_neg (fun z => absurd z.1 (by decide))]; exact v6
  rw [v2, r4, ob_s, v6, a10, ck_t, nm_x, cl_i (show K < 2 ^ 31 by omega), w6, nm_x]
  obtain ⟨m, x1, x2⟩ := sfind_L I (b := pI c 10 K 0) v2 (fun q hq => by
    rw [← vr (d + q) (by omega)]
    funext j
    rw [pI_1, if_neg (fun z => absurd z.1 (by omega))]) hB (fun h21 => bnd (F_X4_cutFrom 8 2 (0 : Int32) (0 : Int32) (0 : Int32) h21) fun _ h22 => some ((), h22)) K FU (pI c 10 K 0) (Nat.le_refl _) (by unfold FU; omega) ⟨rfl, fun _ _ => rfl, fun j h1 h2 => absurd h1 (by omega), fun j h1 h2 => by
    have : j = K := by omega
    subst this
    rw [pI_1, if_pos ⟨rfl, rfl⟩]
    unfold wiN
    rw [Nat.sub_self, orT]
    rfl⟩
  rw [x1]
  obtain ⟨m1, m2, m3, m4⟩ := x2
  have mr : ∀ q, ¬ (5 ≤ q ∧ q < 11) → m.1 q = c.1 q := by
    intro q hq
    rw [m2 q hq]
    funext j
    rw [pI_1, if_neg (fun z => absurd z.1 (by omega))]
  have mh : m.2 = h.2 := m1.trans v2
  have hB' : SpB m K A (Dn h d T) (dpN h d T B) := by
    refine ⟨hK, hA, ⟨?_, ?_, ?_, ?_, ?_, ?_⟩, ?_, ?_, fun i hi => ⟨?_, (m3 i (by omega) hi).1, (m3 i (by omega) hi).2⟩, fun i hi => m4 i (by omega) hi, fun i _ e => (I.dn i e).2, fun i _ e e' he => I.dn_m i he⟩
    · rw [mh]; unfold RC at hR; simp only [hR]
    · rw [mh]; unfold RC at hR; simp only [hR]
    · rw [mh]; unfold RC at hR; simp only [hR]
    · rw [mh]; unfold RC at hR; simp only [hR]
    · rw [mh]; unfold RC at hR; simp only [hR]
    · rw [mh]; exact r6
    · rw [mr 2 (by omega)]; exact v6
    · rw [mr 2 (by omega)]; exact v7
    · have := (dpF_p (ok := okN h d T B i) (Ln h d T i) 0).2.1
      have := I.ln i
      unfold dpN
      omega
  obtain ⟨g', s', y1, y2, -, y4, y5⟩ := cut_R hB' K 0 0 8 m none (by omega) (by omega) ⟨rfl, fun _ _ _ _ => rfl, fun _ _ => rfl⟩ (fun j hj => absurd hj (by omega)) (fun j hj => absurd hj (by omega)) (show m.1 2 1 = -9 by rw [mr 2 (by omega)]; exact v1) (fun y hy => absurd hy (by omega))
  rw [show nI 0 = 0 from rfl, show nI (acR (Dn h d T) (dg 9 0 0) 0) = 0 from rfl, show nI (smR (dg 9 0 0) 0) = 0 from rfl] at y1
  rw [Nat.zero_add, Nat.one_mul] at y5
  refine ⟨g', s', by rw [y1, bnd_s], I.work I.2.1 (RC_c (y2.1.trans mh) hR) (fun q hq => ?_), y4, y5⟩
  rw [y2.2.1 q (by omega) (by omega) (by omega), mr q (by omega), vr q (by omega)]
