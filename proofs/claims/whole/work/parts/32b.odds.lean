theorem RC_swap {h : Hp} {d w : Nat} (hd : d = 23 ∨ d = 45) (hw : w = 21 ∨ w = 22) (hR : RC h d w) : RC (pR (pR h 20 0 (some (43 - w))) 20 1 (some w)) d (43 - w) := by
  unfold RC DR at hR ⊢
  simp only [pR_2]
  rcases hd with rfl | rfl <;> rcases hw with rfl | rfl <;> simp at hR <;> simp [hR]
/-- the memory that a search may write in -/
theorem In0.work {h h' k : Hp} {d w w' C K T M R : Nat} (I : In0 h k d w C K T M R) (hw : w' = 21 ∨ w' = 22) (hR : RC h' d w') (e : ∀ q, q = 0 ∨ (d ≤ q ∧ q < d + 21) ∨ 67 ≤ q → h'.1 q = h.1 q) : In0 h' k d w' C K T M R := by
  obtain ⟨a1, a2, a3, a4, a5, a6, a7⟩ := I
  refine ⟨a1, hw, hR, a4, ?_, ?_, ?_⟩
  · rw [e 0 (Or.inl rfl)]
    exact a5
  · have : hs h' = hs h := by
      funext q j
      unfold hs
      split
      · next c => rw [e q (Or.inr (Or.inr c))]
      · rfl
    rw [this]
    exact a6
  · have : dv h' d = dv h d := by
      funext q j
      unfold dv
      split
      · next c => rw [e (d + q) (Or.inr (Or.inl (by omega)))]
      · rfl
    rw [this]
    exact a7
def ctO (h : Hp) (d i : Nat) (t : Nat) (b : Bool) : Bool := lkV h d i t (if b then 1 else h.1 (d + 6) t)
def itO (h : Hp) (d : Nat) (wd : Int32) (t : Nat) : Bool := decide (h.1 (d + 7) t = wd)
def miO (h : Hp) (d i : Nat) : Bool := decide (h.1 (d + 1) i = 2)
def pO (h : Hp) (d i : Nat) (wd : Int32) (t : Nat) (x : Nat) : Nat := stA (ctO h d i) (itO h d wd) (miO h d i) x t
theorem lkV_c {h h' : Hp} {d i t : Nat} {lo : Int32} (hi : i < 4) (e : ∀ q, q < 21 → h'.1 (d + q) = h.1 (d + q)) : lkV h' d i t lo = lkV h d i t lo := by
  unfold lkV celV
  rw [e 1 (by decide), e 2 (by decide), e 3 (by decide), e 4 (by decide), e 5 (by decide), e (17 + i) (by omega)]
theorem weigh_L {h : Hp} {d : Nat} (hd : d = 23 ∨ d = 45) {i T : Nat} (hi : i < 4) (hT : h.1 d 2 = nI T) (hT8 : T ≤ 8) (wd : Int32) (kk : Hp → Option (Unit × Hp)) : ∀ (N t w' : Nat) (h' : Hp), (w' = 21 ∨ w' = 22) → RC h' d w' → (∀ q, q ≠ 21 → q ≠ 22 → h'.1 q = h.1 q) → (∀ j, j < 4 → h'.1 w' j = nI (cnt (pO h d i wd t) (2 ^ t) j)) → t ≤ T → T + 1 ≤ t + N →
    ∃ w'' h'', (w'' = 21 ∨ w'' = 22) ∧ RC h'' d w'' ∧ (∀ q, q ≠ 21 → q ≠ 22 → h''.1 q = h.1 q) ∧ (∀ j, j < 4 → h''.1 w'' j = nI (cnt (pO h d i wd T) (2 ^ T) j)) ∧ F_X5_weigh_L18 kk 20 d (nI i) wd N (nI t) h' = kk h'' := by
  have hdd : 22 < d := by omega
  intro N
  induction N with
  | zero => intro t w' h' h1 h2 h3 h4 h5 h6; omega
  | succ N ih =>
    intro t w' h' h1 h2 h3 h4 h5 h6
    rw [F_X5_weigh_L18, h3 d (by omega) (by omega), hT]
    by_cases e : t = T
    · subst e
      rw [if_pos (Int32.le_refl _)]
      exact ⟨w', h', h1, h2, h3, h4, rfl⟩
    · rw [if_neg (nI_ge (show t < T by omega) (by omega))]
      have hS := SD_of hd
      have r0 : h'.2 20 0 = some w' := by unfold RC at h2; simp only [h2]
      have r1 : h'.2 20 1 = some (43 - w') := by unfold RC at h2; simp only [h2]
      have hf := fill_ok (q := 43 - w') (n := 4) (by rcases h1 with rfl | rfl <;> decide +kernel) (by decide) 0 h'
      have hrow : ∀ q, q ≠ 43 - w' → (pB h' (43 - w') 0 4 0).1 q = h'.1 q := by
        intro q hq
        funext j
        rw [pB_1, if_neg (fun z => hq z.1)]
      have s1 := spread_x (h := pB h' (43 - w') 0 4 0) (RC_c rfl h2 |>.dr hd) hS h1 r0 r1 hi (show t < 8 by omega) 1 wd
      have ha : ∀ q, q ≠ 43 - w' → (pSp (pB h' (43 - w') 0 4 0) (43 - w') (fun j => (pB h' (43 - w') 0 4 0).1 (43 - w') j + spF (toS (lkV (pB h' (43 - w') 0 4 0) d i t 1) (decide ((pB h' (43 - w') 0 4 0).1 (d + 7) t = wd)) (decide ((pB h' (43 - w') 0 4 0).1 (d + 1) i = 2))) ((pB h' (43 - w') 0 4 0).1 w') 4 j)).1 q = h'.1 q := by
        intro q hq
        rw [pSp_off hq, hrow q hq]
      have e1 : ∀ q, q < 21 → (pB h' (43 - w') 0 4 0).1 (d + q) = h.1 (d + q) := fun q hq => by rw [hrow _ (by omega), h3 _ (by omega) (by omega)]
      rw [lkV_c hi e1, e1 7 (by decide), e1 1 (by decide), hrow w' (by omega)] at s1 ha
      generalize hg : pSp (pB h' (43 - w') 0 4 0) (43 - w') (fun j => (pB h' (43 - w') 0 4 0).1 (43 - w') j + spF (toS (lkV h d i t 1) (decide (h.1 (d + 7) t = wd)) (decide (h.1 (d + 1) i = 2))) (h'.1 w') 4 j) = g at s1 ha
      have hg2 : g.2 = h'.2 := by rw [← hg]; rfl
      have g0 : g.2 20 0 = some w' := by rw [hg2]; exact r0
      have g1 : g.2 20 1 = some (43 - w') := by rw [hg2]; exact r1
      have hD : DR g d := (RC_c hg2 h2).dr hd
      have e2 : ∀ q, q < 21 → g.1 (d + q) = h.1 (d + q) := fun q hq => by rw [ha _ (by omega), h3 _ (by omega) (by omega)]
      have s2 := spread_x (h := g) hD hS h1 g0 g1 hi (show t < 8 by omega) (h.1 (d + 6) t) wd
      rw [lkV_c hi e2, e2 7 (by decide), e2 1 (by decide), ha w' (by omega)] at s2
      have a6 := aIn_i (show shC[d + 6]? = some (1, 8) by unfold SD at hS; simp only [hS]) (show t < 8 by omega) (by decide)
      have d8 : g.2 d 8 = some (d + 6) := by unfold DR at hD; simp only [hD]
      have hp2 : ∀ f, (pSp g (43 - w') f).2 = h'.2 := fun f => hg2
      simp only [r1, ob_s, hf, bnd_s, s1, d8, a6, ck_t, cl_i (show t < 2 ^ 31 by omega), e2 6 (by decide), s2, hp2, r0, nm_x, nI_1]
      refine ih (t + 1) (43 - w') _ (by omega) (RC_swap hd h1 (RC_c (hp2 _) h2)) ?_ ?_ (by omega) (by omega)
      · intro q q1 q2
        rw [pR_1, pR_1, pSp_off (by omega), ha q (by omega), h3 q q1 q2]
      · intro j hj
        rw [pR_1, pR_1, pSp_on, ← hg, pSp_on, pB_1, if_pos ⟨rfl, by omega, hj⟩]
        unfold pO
        rw [cnt_day, spF_n (w := cnt (pO h d i wd t) (2 ^ t)) 4 h4, spF_n (w := cnt (pO h d i wd t) (2 ^ t)) 4 h4, Int32.zero_add, nI_add]
        rfl
def rdF : Nat → Int32 → Int32 → Int32 × Int32
  | 0, u, l => (u, l)
  | n + 1, u, l => if l ≤ 1 then (u, l) else if u - u / 2 * 2 = 0 then rdF n (u / 2) (l / 2) else (u, l)
theorem reduce_L : ∀ (N n : Nat) (h : Hp), n ≤ 8 → n + 1 ≤ N → ∃ h', F_X5_reduce_L2 20 N (nI (8 - n)) h = some ((), h') ∧ h'.1 20 2 = (rdF n (h.1 20 2) (h.1 20 3)).1 ∧ h'.1 20 3 = (rdF n (h.1 20 2) (h.1 20 3)).2 ∧ h'.2 = h.2 ∧ ∀ q, q ≠ 20 → h'.1 q = h.1 q := by
  intro N
  induction N with
  | zero => intro n h h1 h2; omega
  | succ N ih =>
    intro n h h1 h2
    rw [F_X5_reduce_L2]
    cases n with
    | zero =>
      rw [if_pos (show (8 : Int32) ≤ nI (8 - 0) by decide)]
      exact ⟨h, rfl, rfl, rfl, rfl, fun _ _ => rfl⟩
    | succ n =>
      rw [if_neg (show ¬ (8 : Int32) ≤ nI (8 - (n + 1)) from nI_ge (a := 8 - (n + 1)) (b := 8) (by omega) (by omega)), rdF]
      by_cases c1 : h.1 20 3 ≤ 1
      · rw [if_pos c1, if_pos c1]
        exact ⟨h, rfl, rfl, rfl, rfl, fun _ _ => rfl⟩
      · rw [if_neg c1, if_neg c1]
        by_cases c2 : h.1 20 2 - h.1 20 2 / 2 * 2 = 0
        · rw [if_pos c2, if_pos c2]
          simp only [nm_x, nI_1]
          obtain ⟨h', e1, e2, e3, e4, e5⟩ := ih n (pI (pI h 20 2 (h.1 20 2 / 2)) 20 3 ((pI h 20 2 (h.1 20 2 / 2)).1 20 3 / 2)) (by omega) (by omega)
          rw [show 8 - (n + 1) + 1 = 8 - n by omega]
          have v2 : (pI (pI h 20 2 (h.1 20 2 / 2)) 20 3 ((pI h 20 2 (h.1 20 2 / 2)).1 20 3 / 2)).1 20 2 = h.1 20 2 / 2 := by rw [pI_1, if_neg (by decide), pI_1, if_pos (by decide)]
          have v3 : (pI (pI h 20 2 (h.1 20 2 / 2)) 20 3 ((pI h 20 2 (h.1 20 2 / 2)).1 20 3 / 2)).1 20 3 = h.1 20 3 / 2 := by rw [pI_1, if_pos (by decide), pI_1, if_neg (by decide)]
          rw [v2, v3] at e2 e3
          refine ⟨h', e1, e2, e3, e4, fun q hq => ?_⟩
          rw [e5 q hq]
          funext j
          rw [pI_1, if_neg (fun z => hq z.1), pI_1, if_neg (fun z => hq z.1)]
        · rw [if_neg c2, if_neg c2]
          exact ⟨h, rfl, rfl, rfl, rfl, fun _ _ => rfl⟩
theorem weigh_x {h k : Hp} {d w C K T M R : Nat} (I : In0 h k d w C K T M R) {i : Nat} (hi : i < K) (wd : Int32) : ∃ h' w', F_X5_weigh 20 d (nI i) wd h = some ((), h') ∧ In0 h' k d w' C K T M R ∧ h'.1 20 2 = (rdF 8 (nI (sumB (pO h d i wd T) (2 ^ T))) (nI (2 ^ T))).1 ∧ h'.1 20 3 = (rdF 8 (nI (sumB (pO h d i wd T) (2 ^ T))) (nI (2 ^ T))).2 := by
  have hK := I.K.2.2
  obtain ⟨t1, -, t3⟩ := I.T
  have hd := I.1
  have hw := I.2.1
  have hR := I.2.2.1
  have r0 : h.2 20 0 = some w := by unfold RC at hR; simp only [hR]
  have hf := fill_ok (q := w) (n := 4) (by rcases hw with rfl | rfl <;> decide +kernel) (by decide) 0 h
  have aw : aIn shC w 0 = true := aIn_i (n := 4) (i := 0) (by rcases hw with rfl | rfl <;> decide +kernel) (by decide) (by decide)
  have b2 : (pB h w 0 4 0).2 = h.2 := rfl
  unfold F_X5_weigh
  rw [r0, ob_s, hf, bnd_s, b2, r0, ob_s, aw, ck_t, nm_x]
  have hrow : ∀ q, q ≠ 21 → q ≠ 22 → (pI (pB h w 0 4 0) w (0 : Int32).toNatClampNeg 1).1 q = h.1 q := by
    intro q q1 q2
    funext j
    rw [pI_1, if_neg (by omega), pB_1, if_neg (by omega)]
  obtain ⟨w2, h2, k1, k2, k3, k4, k5⟩ := weigh_L (h := h) hd (show i < 4 by omega) t1 t3 wd (fun h22 => (h22.2 20 0).bind fun q23 => ck (aIn shC q23 (1 : Int32)) ((h22.2 20 0).bind fun q24 => ck (aIn shC q24 (3 : Int32)) (nm (pI h22 20 2 ((h22.1 q23 ((1 : Int32)).toNatClampNeg) + (h22.1 q24 ((3 : Int32)).toNatClampNeg))) fun h25 => nm (pI h25 20 3 ((1 : Int32) <<< ((h25.1 d 2) &&& 31))) fun h26 => bnd (F_X5_reduce 20 h26) fun _ h27 => some ((), h27)))) FU 0 w (pI (pB h w 0 4 0) w (0 : Int32).toNatClampNeg 1) hw (RC_c rfl hR) hrow (fun j hj => by
    rw [pI_1, pB_1]
    have : j = 0 ∨ j = 1 ∨ j = 2 ∨ j = 3 := by omega
    rcases this with rfl | rfl | rfl | rfl <;> simp (decide := true) [cnt, pO, stA] <;> rfl) (by omega) (by unfold FU; omega)
  rw [nI_0] at k5
  have r2 : h2.2 20 0 = some w2 := by unfold RC at k2; simp only [k2]
  have a1 : aIn shC w2 1 = true := aIn_i (n := 4) (i := 1) (by rcases k1 with rfl | rfl <;> decide +kernel) (by decide) (by decide)
  have a3 : aIn shC w2 3 = true := aIn_i (n := 4) (i := 3) (by rcases k1 with rfl | rfl <;> decide +kernel) (by decide) (by decide)
  have v : h2.1 w2 (1 : Int32).toNatClampNeg + h2.1 w2 (3 : Int32).toNatClampNeg = nI (sumB (pO h d i wd T) (2 ^ T)) := by
    rw [show (1 : Int32).toNatClampNeg = 1 from rfl, show (3 : Int32).toNatClampNeg = 3 from rfl, k4 1 (by decide), k4 3 (by decide), nI_add, (sumB_x (p := pO h d i wd T) (fun x => stA_lt _ _ _ x T) (2 ^ T)).1]
  have hdd : 22 < d := by omega
  have td : (pI h2 20 2 (nI (sumB (pO h d i wd T) (2 ^ T)))).1 d 2 = nI T := by rw [pI_1, if_neg (by omega), k3 d (by omega) (by omega)]; exact t1
  obtain ⟨h3, e1, e2, e3, e4, e5⟩ := reduce_L FU 8 (pI (pI h2 20 2 (nI (sumB (pO h d i wd T) (2 ^ T)))) 20 3 (nI (2 ^ T))) (by decide) (by unfold FU; omega)
  refine ⟨h3, w2, ?_, ?_, ?_, ?_⟩
  · rw [k5]
    simp only [r2, ob_s, a1, a3, ck_t, nm_x, v, td, shl_nI T (by omega)]
    unfold F_X5_reduce
    rw [show nI (8 - 8) = 0 from rfl] at e1
    rw [e1]
    rfl
  · refine I.work k1 (RC_c e4 (RC_c (h' := pI (pI h2 20 2 (nI (sumB (pO h d i wd T) (2 ^ T)))) 20 3 (nI (2 ^ T))) rfl k2)) (fun q hq => ?_)
    have q20 : q ≠ 20 := by omega
    rw [e5 q q20, ← k3 q (by omega) (by omega)]
    funext j
    rw [pI_1, if_neg (fun z => q20 z.1), pI_1, if_neg (fun z => q20 z.1)]
  · rw [e2, pI_1, if_neg (by decide), pI_1, if_pos (by decide), pI_1, if_pos (by decide)]
  · rw [e3, pI_1, if_neg (by decide), pI_1, if_pos (by decide), pI_1, if_pos (by decide)]
