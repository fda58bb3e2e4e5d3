/-! the states of one cheese and one word -/
def encS (b e : Bool) : Nat := (if b then 1 else 0) + (if e then 2 else 0)
def toS (c it mi : Bool) (s : Nat) : Nat := if c then encS (decide (s % 2 = 1) || (it && !decide (s / 2 = 1))) (if mi then !decide (s / 2 = 1) else decide (s / 2 = 1)) else s
theorem toS_lt (c it mi : Bool) {s : Nat} (h : s < 4) : toS c it mi s < 4 := by
  have : s = 0 ∨ s = 1 ∨ s = 2 ∨ s = 3 := by omega
  rcases this with rfl | rfl | rfl | rfl <;> cases c <;> cases it <;> cases mi <;> decide
theorem enc_0 (b e : Bool) : decide (encS b e % 2 = 1) = b := by cases b <;> cases e <;> decide
theorem enc_1 (b e : Bool) : decide (encS b e / 2 = 1) = e := by cases b <;> cases e <;> decide
theorem toS_enc (it mi b e : Bool) : toS true it mi (encS b e) = encS (b || (it && !e)) (if mi then !e else e) := by
  unfold toS
  rw [if_pos rfl, enc_0, enc_1]
def stA (ct : Nat → Bool → Bool) (it : Nat → Bool) (mi : Bool) (x : Nat) : Nat → Nat
  | 0 => 0
  | t + 1 => toS (ct t (bitQ x t)) (it t) mi (stA ct it mi x t)
theorem stA_lt (ct : Nat → Bool → Bool) (it : Nat → Bool) (mi : Bool) (x : Nat) : ∀ t, stA ct it mi x t < 4 := by
  intro t
  induction t with
  | zero => exact (by decide : 0 < 4)
  | succ t ih => exact toS_lt _ _ _ ih
theorem stA_c {ct : Nat → Bool → Bool} {it : Nat → Bool} {mi : Bool} {x y : Nat} : ∀ t, (∀ s, s < t → bitQ x s = bitQ y s) → stA ct it mi x t = stA ct it mi y t := by
  intro t
  induction t with
  | zero => intro _; rfl
  | succ t ih =>
    intro h
    rw [stA, stA, h t (by omega), ih (fun s hs => h s (by omega))]
def cnt (p : Nat → Nat) : Nat → Nat → Nat
  | 0, _ => 0
  | n + 1, s => cnt p n s + (if p n = s then 1 else 0)
theorem cnt_c {p p' : Nat → Nat} {s : Nat} : ∀ n, (∀ x, x < n → p x = p' x) → cnt p n s = cnt p' n s := by
  intro n
  induction n with
  | zero => intro _; rfl
  | succ n ih =>
    intro h
    rw [cnt, cnt, ih (fun x hx => h x (by omega)), h n (by omega)]
theorem cnt_add {p : Nat → Nat} {s n : Nat} : ∀ m, cnt p (n + m) s = cnt p n s + cnt (fun x => p (n + x)) m s := by
  intro m
  induction m with
  | zero => rfl
  | succ m ih => rw [show n + (m + 1) = (n + m) + 1 by omega, cnt, cnt, ih, Nat.add_assoc]
def spN (to : Nat → Nat) (w : Nat → Nat) : Nat → Nat → Nat
  | 0, _ => 0
  | n + 1, j => spN to w n j + (if to n = j then w n else 0)
theorem spN_1 {to w : Nat → Nat} {q j : Nat} : ∀ m, spN to (fun s => w s + (if q = s then 1 else 0)) m j = spN to w m j + (if q < m ∧ to q = j then 1 else 0) := by
  intro m
  induction m with
  | zero => rw [if_neg (by omega)]; rfl
  | succ m ih =>
    rw [spN, spN, ih]
    by_cases e1 : q = m
    · subst e1
      by_cases e2 : to q = j
      · rw [if_neg (show ¬ (q < q ∧ to q = j) by omega), if_pos e2, if_pos rfl, if_pos e2, if_pos ⟨by omega, e2⟩]
        omega
      · rw [if_neg (show ¬ (q < q ∧ to q = j) by omega), if_neg e2, if_neg e2, if_neg (fun z => e2 z.2)]
    · have e2 : (q < m + 1 ∧ to q = j) = (q < m ∧ to q = j) := propext (by omega)
      simp only [if_neg e1, e2, Nat.add_zero]
      omega
theorem cnt_step {f p : Nat → Nat} {s m : Nat} : ∀ n, (∀ x, x < n → p x < m) → cnt (fun x => f (p x)) n s = spN f (cnt p n) m s := by
  intro n
  induction n with
  | zero =>
    intro _
    have : ∀ m, spN f (cnt p 0) m s = 0 := by
      intro m
      induction m with
      | zero => rfl
      | succ m ih =>
        rw [spN, ih]
        split <;> rfl
    rw [this]
    rfl
  | succ n ih =>
    intro h
    have e : cnt p (n + 1) = fun s => cnt p n s + (if p n = s then 1 else 0) := by
      funext s
      rfl
    rw [cnt, e, spN_1, ih (fun x hx => h x (by omega))]
    congr 1
    by_cases e2 : f (p n) = s
    · rw [if_pos e2, if_pos ⟨h n (by omega), e2⟩]
    · rw [if_neg e2, if_neg (fun z => e2 z.2)]
def sumB (p : Nat → Nat) : Nat → Nat
  | 0 => 0
  | n + 1 => sumB p n + p n % 2
theorem sumB_x {p : Nat → Nat} (hp : ∀ x, p x < 4) : ∀ n, sumB p n = cnt p n 1 + cnt p n 3 ∧ sumB p n ≤ n := by
  intro n
  induction n with
  | zero => exact ⟨rfl, Nat.le_refl _⟩
  | succ n ih =>
    rw [sumB, cnt, cnt]
    have h4 := hp n
    have : p n = 0 ∨ p n = 1 ∨ p n = 2 ∨ p n = 3 := by omega
    rcases this with e | e | e | e <;> rw [e] <;> simp <;> omega
theorem bitQ_t (H t : Nat) : bitQ H t = H.testBit t := by
  unfold bitQ
  rw [Nat.testBit_eq_decide_div_mod_eq]
theorem bitQ_hi {x t : Nat} (h : x < 2 ^ t) : bitQ x t = false := by
  rw [bitQ_t]
  exact Nat.testBit_lt_two_pow h
theorem bitQ_add {x t : Nat} (h : x < 2 ^ t) : bitQ (2 ^ t + x) t = true := by
  rw [bitQ_t, Nat.testBit_two_pow_add_eq, Nat.testBit_lt_two_pow h]
  rfl
theorem bitQ_low {x t s : Nat} (h : s < t) : bitQ (2 ^ t + x) s = bitQ x s := by
  rw [bitQ_t, bitQ_t, Nat.testBit_two_pow_add_gt h]
/-- the ways to a state, a day later -/
theorem cnt_day (ct : Nat → Bool → Bool) (it : Nat → Bool) (mi : Bool) (t s : Nat) : cnt (fun x => stA ct it mi x (t + 1)) (2 ^ (t + 1)) s = spN (toS (ct t true) (it t) mi) (cnt (fun x => stA ct it mi x t) (2 ^ t)) 4 s + spN (toS (ct t false) (it t) mi) (cnt (fun x => stA ct it mi x t) (2 ^ t)) 4 s := by
  rw [show 2 ^ (t + 1) = 2 ^ t + 2 ^ t by rw [Nat.pow_succ]; omega, cnt_add, Nat.add_comm]
  congr 1
  · rw [← cnt_step (f := toS (ct t true) (it t) mi) (p := fun x => stA ct it mi x t) (2 ^ t) (fun x _ => stA_lt ct it mi x t)]
    apply cnt_c
    intro x hx
    rw [stA, bitQ_add hx, stA_c t (fun s hs => bitQ_low hs)]
  · rw [← cnt_step (f := toS (ct t false) (it t) mi) (p := fun x => stA ct it mi x t) (2 ^ t) (fun x _ => stA_lt ct it mi x t)]
    apply cnt_c
    intro x hx
    rw [stA, bitQ_hi hx]
/-! the class spreads -/
def spF (to : Nat → Nat) (W : Nat → Int32) : Nat → Nat → Int32
  | 0, _ => 0
  | n + 1, j => spF to W n j + (if to n = j then W n else 0)
theorem spF_n {to w : Nat → Nat} {W : Nat → Int32} {j : Nat} : ∀ n, (∀ s, s < n → W s = nI (w s)) → spF to W n j = nI (spN to w n j) := by
  intro n
  induction n with
  | zero => intro _; rfl
  | succ n ih =>
    intro h
    rw [spF, spN, ih (fun s hs => h s (by omega)), h n (by omega), ← nI_add]
    congr 1
    split <;> rfl
def pSp (h : Hp) (r : Nat) (f : Nat → Int32) : Hp := (fun a b => if a = r then f b else h.1 a b, h.2)
theorem pSp_1 {h : Hp} {r a b : Nat} {f : Nat → Int32} : (pSp h r f).1 a b = if a = r then f b else h.1 a b := rfl
theorem pSp_on {h : Hp} {r b : Nat} {f : Nat → Int32} : (pSp h r f).1 r b = f b := if_pos rfl
theorem pSp_off {h : Hp} {r a : Nat} {f : Nat → Int32} (hr : a ≠ r) : (pSp h r f).1 a = h.1 a := by
  funext b
  rw [pSp_1, if_neg hr]
theorem spread_to {r : Nat} (c it mi : Bool) (N s : Nat) (hs : s < 4) (h : Hp) : F_X5_spread_L54 r (b2i c) (b2i mi) (b2i it) (N + 1) (nI s) h = F_X5_spread_J120 (F_X5_spread_L54 r (b2i c) (b2i mi) (b2i it) N) r (b2i c) (b2i mi) (b2i it) (nI s) (nI (toS c it mi s)) h := by
  rw [F_X5_spread_L54]
  unfold F_X5_spread_J81 F_X5_spread_J100 F_X5_spread_J102 F_X5_spread_J118
  have : s = 0 ∨ s = 1 ∨ s = 2 ∨ s = 3 := by omega
  rcases this with rfl | rfl | rfl | rfl <;> cases c <;> cases it <;> cases mi <;> simp (decide := true) only [if_true, if_false] <;> rfl
theorem spread_L {h : Hp} {w : Nat} (hw : w = 21 ∨ w = 22) (r0 : h.2 20 0 = some w) (r1 : h.2 20 1 = some (43 - w)) (c it mi : Bool) : ∀ (N s : Nat), s ≤ 4 → 5 ≤ s + N → F_X5_spread_L54 20 (b2i c) (b2i mi) (b2i it) N (nI s) (pSp h (43 - w) (fun j => h.1 (43 - w) j + spF (toS c it mi) (h.1 w) s j)) = some ((), pSp h (43 - w) (fun j => h.1 (43 - w) j + spF (toS c it mi) (h.1 w) 4 j)) := by
  intro N
  induction N with
  | zero => intro s h1 h2; omega
  | succ N ih =>
    intro s h1 h2
    by_cases e : s = 4
    · subst e
      rw [F_X5_spread_L54, if_pos (show (4 : Int32) ≤ nI 4 by decide)]
    · have hs : s < 4 := by omega
      have ht := toS_lt c it mi hs
      have aw : aIn shC w (nI s) = true := aIn_i (n := 4) (by rcases hw with rfl | rfl <;> decide +kernel) hs (by decide)
      have ar : aIn shC (43 - w) (nI (toS c it mi s)) = true := aIn_i (n := 4) (by rcases hw with rfl | rfl <;> decide +kernel) ht (by decide)
      have e2 : (pSp h (43 - w) (fun j => h.1 (43 - w) j + spF (toS c it mi) (h.1 w) s j)).2 = h.2 := rfl
      rw [spread_to c it mi N s hs]
      unfold F_X5_spread_J120
      simp only [e2, r0, r1, ob_s, aw, ar, ck_t, nm_x, cl_i (show s < 2 ^ 31 by omega), cl_i (show toS c it mi s < 2 ^ 31 by omega), nI_1]
      have hp : pI (pSp h (43 - w) (fun j => h.1 (43 - w) j + spF (toS c it mi) (h.1 w) s j)) (43 - w) (toS c it mi s) ((pSp h (43 - w) (fun j => h.1 (43 - w) j + spF (toS c it mi) (h.1 w) s j)).1 (43 - w) (toS c it mi s) + (pSp h (43 - w) (fun j => h.1 (43 - w) j + spF (toS c it mi) (h.1 w) s j)).1 w s) = pSp h (43 - w) (fun j => h.1 (43 - w) j + spF (toS c it mi) (h.1 w) (s + 1) j) := by
        refine Prod.ext ?_ rfl
        funext a b
        rw [pI_1, pSp_on, pSp_off (show w ≠ 43 - w by omega)]
        by_cases ea : a = 43 - w
        · subst ea
          rw [pSp_on, pSp_on, spF]
          by_cases eb : b = toS c it mi s
          · rw [if_pos ⟨rfl, eb⟩, eb, if_pos rfl, Int32.add_assoc]
          · rw [if_neg (fun z => eb z.2), if_neg (fun z => eb z.symm), Int32.add_zero]
        · rw [if_neg (fun z => ea z.1), pSp_off ea, pSp_off ea]
      rw [hp]
      exact ih (s + 1) (by omega) (by omega)
def lkV (h : Hp) (d i t : Nat) (lo : Int32) : Bool := catV (h.1 (d + 1) i) (h.1 (d + 3) i) (h.1 (d + 4) i) (h.1 (d + 5) t) (celV h d i t) lo t
theorem spread_x {h : Hp} {d w : Nat} (hD : DR h d) (hS : SD d) (hw : w = 21 ∨ w = 22) (r0 : h.2 20 0 = some w) (r1 : h.2 20 1 = some (43 - w)) {i t : Nat} (hi : i < 4) (ht : t < 8) (lo wd : Int32) : F_X5_spread 20 d (nI i) (nI t) lo wd h = some ((), pSp h (43 - w) (fun j => h.1 (43 - w) j + spF (toS (lkV h d i t lo) (decide (h.1 (d + 7) t = wd)) (decide (h.1 (d + 1) i = 2))) (h.1 w) 4 j)) := by
  have key : ∀ c it mi, F_X5_spread_L54 20 (b2i c) (b2i mi) (b2i it) FU 0 h = some ((), pSp h (43 - w) (fun j => h.1 (43 - w) j + spF (toS c it mi) (h.1 w) 4 j)) := by
    intro c it mi
    have := spread_L hw r0 r1 c it mi FU 0 (by omega) (by unfold FU; omega)
    rw [nI_0] at this
    rw [← this]
    congr 1
    refine Prod.ext ?_ rfl
    funext a b
    rw [pSp_1]
    split
    · next e =>
      rw [e, spF, Int32.add_zero]
    · rfl
  have c9 := catches_x hD hS hi ht (celV h d i t) lo
  have c8 := cellarOn_x hD hS hi ht
  unfold DR at hD
  unfold SD at hS
  have a1 := aIn_i hS.2.1 hi (by decide)
  have a7 := aIn_i hS.2.2.2.2.2.2.2.1 ht (by decide)
  unfold F_X5_spread F_X5_spread_J31 F_X5_spread_J49
  simp only [c8, c9, bnd_s, hD, ob_s, a1, a7, ck_t, cl_i (show i < 2 ^ 31 by omega), cl_i (show t < 2 ^ 31 by omega)]
  rw [← key]
  unfold lkV
  by_cases c1 : h.1 (d + 1) i = 2 <;> by_cases c2 : h.1 (d + 7) t = wd <;> simp [c1, c2, b2i]
