/-! rows of numbers below B, in their order -/
def dg (B n x j : Nat) : Nat := x / B ^ (n - 1 - j) % B
theorem dg_lt {B n x j : Nat} (hB : 0 < B) : dg B n x j < B := Nat.mod_lt _ hB
theorem dg_last {B k p c : Nat} (hc : c < B) : dg B (k + 1) (p * B + c) k = c := by
  unfold dg
  rw [show k + 1 - 1 - k = 0 by omega, Nat.pow_zero, Nat.div_one, Nat.mul_comm, Nat.mul_add_mod, Nat.mod_eq_of_lt hc]
theorem dg_init {B k p c j : Nat} (hc : c < B) (hj : j < k) : dg B (k + 1) (p * B + c) j = dg B k p j := by
  unfold dg
  rw [show k + 1 - 1 - j = (k - 1 - j) + 1 by omega, Nat.pow_succ, Nat.mul_comm (B ^ (k - 1 - j)) B, ← Nat.div_div_eq_div_mul, Nat.mul_comm p B, Nat.mul_add_div (by omega), Nat.div_eq_of_lt hc, Nat.add_zero]
/-- what a row gathers -/
def acR (W : Nat → Nat → Nat) (ρ : Nat → Nat) : Nat → Nat
  | 0 => 0
  | n + 1 => acR W ρ n ||| W n (ρ n)
theorem acR_c {W : Nat → Nat → Nat} {ρ ρ' : Nat → Nat} : ∀ n, (∀ j, j < n → ρ j = ρ' j) → acR W ρ n = acR W ρ' n := by
  intro n
  induction n with
  | zero => intro _; rfl
  | succ n ih =>
    intro h
    rw [acR, acR, ih (fun j hj => h j (by omega)), h n (by omega)]
theorem acR_b {W : Nat → Nat → Nat} {ρ : Nat → Nat} {K : Nat} (hW : ∀ j, j < K → W j (ρ j) < 256) : ∀ n, n ≤ K → acR W ρ n < 256 := by
  intro n
  induction n with
  | zero => intro _; exact (by decide : 0 < 256)
  | succ n ih =>
    intro h
    exact Nat.or_lt_two_pow (n := 8) (ih (by omega)) (hW n (by omega))
/-- the first of the greatest -/
def upB (g : Nat → Nat) (x : Nat) (s : Int32 × Option Nat) : Int32 × Option Nat := if nI (g x) ≤ s.1 then s else (nI (g x), some x)
def fld (g : Nat → Nat) : Nat → Nat → Int32 × Option Nat → Int32 × Option Nat
  | 0, _, s => s
  | n + 1, x, s => fld g n (x + 1) (upB g x s)
theorem fld_add {g : Nat → Nat} : ∀ a b x s, fld g (a + b) x s = fld g b (x + a) (fld g a x s) := by
  intro a
  induction a with
  | zero => intro b x s; rw [Nat.zero_add]; rfl
  | succ a ih =>
    intro b x s
    rw [show a + 1 + b = (a + b) + 1 by omega, fld, ih, fld, show x + 1 + a = x + (a + 1) by omega]
theorem bc_x : ∀ a, a < 256 → ∀ h : Hp, F_J6_bitCount_0f7a4 (nI a) h = some (nI (pcF 8 a), h) := by
  intro a ha h
  unfold F_J6_bitCount_0f7a4
  simp only [nm_x]
  congr 2
  revert ha
  revert a
  decide +kernel
/-- n entries of row b set -/
def pQ (k : Hp) (b n : Nat) (f : Nat → Int32) : Hp := (fun q j => if q = b ∧ j < n then f j else k.1 q j, k.2)
theorem pQ_1 {k : Hp} {b n q j : Nat} {f : Nat → Int32} : (pQ k b n f).1 q j = if q = b ∧ j < n then f j else k.1 q j := rfl
theorem pQ_off {k : Hp} {b n q : Nat} {f : Nat → Int32} (hq : q ≠ b) : (pQ k b n f).1 q = k.1 q := by
  funext j
  rw [pQ_1, if_neg (fun z => hq z.1)]
theorem pQ_on {k : Hp} {b n j : Nat} {f : Nat → Int32} (hj : j < n) : (pQ k b n f).1 b j = f j := by
  rw [pQ_1, if_pos ⟨rfl, hj⟩]
theorem pQ_0 {k : Hp} {b : Nat} {f : Nat → Int32} : pQ k b 0 f = k := by
  refine Prod.ext ?_ rfl
  funext q j
  rw [pQ_1, if_neg (by omega)]
theorem pQ_s {k : Hp} {b x : Nat} {f : Nat → Int32} : pI (pQ k b x f) b x (f x) = pQ k b (x + 1) f := by
  refine Prod.ext ?_ rfl
  funext q j
  rw [pI_1, pQ_1, pQ_1]
  by_cases e : q = b ∧ j = x
  · rw [if_pos e, if_pos (by omega), e.2]
  · rw [if_neg e]
    by_cases e2 : q = b ∧ j < x
    · rw [if_pos e2, if_pos (by omega)]
    · rw [if_neg e2, if_neg (by omega)]
/-! the class's search for shelves -/
def ShC (b g : Hp) : Prop := g.2 = b.2 ∧ (∀ q, q ≠ 12 → q ≠ 13 → q ≠ 19 → g.1 q = b.1 q) ∧ ∀ j, j ≠ 1 → g.1 12 j = b.1 12 j
def Bst (C K : Nat) (s : Int32 × Option Nat) (f : Nat → Int32) : Prop := ∀ x, s.2 = some x → ∀ j, j < K → f j = nI (dg C K x j)
def ShB (b : Hp) (C K : Nat) (W : Nat → Nat → Nat) : Prop := K ≤ 4 ∧ C ≤ 5 ∧ (0 < K → 0 < C) ∧ (b.2 12 0 = some 13 ∧ b.2 12 2 = some 14 ∧ b.2 12 3 = some 19 ∧ ∀ k, k < 4 → b.2 14 k = some (15 + k)) ∧ b.1 12 4 = nI K ∧ b.1 12 5 = nI C ∧ (∀ k, k < K → ∀ c, c < C → b.1 (15 + k) c = nI (W k c)) ∧ ∀ k, k < K → ∀ c, c < C → W k c < 256
theorem cp4 {g : Hp} {j : Nat} (hj : j < 4) : (pC g 19 13 (0 : Int32).toNatClampNeg (0 : Int32).toNatClampNeg (4 : Int32).toNatClampNeg).1 13 j = g.1 19 j := by
  have : (4 : Int32).toNatClampNeg = 4 := rfl
  unfold pC va_cpy
  rw [this]
  simp
  intro
  omega
theorem pC_row {g : Hp} {a b sp dp n q : Nat} (hq : q ≠ b) : (pC g a b sp dp n).1 q = g.1 q := by
  funext j
  unfold pC
  exact if_neg hq
theorem s15 : ∀ k, k < 4 → shC[15 + k]? = some (1, 5) := by decide +kernel
theorem shelve_R {b : Hp} {C K : Nat} {W : Nat → Nat → Nat} (B : ShB b C K W) : ∀ (n k p N : Nat) (g : Hp) (s : Int32 × Option Nat), k + n = K → n + 1 ≤ N → ShC b g → (∀ j, j < k → g.1 19 j = nI (dg C k p j)) → g.1 12 1 = s.1 → Bst C K s (g.1 13) →
    ∃ g', F_X2_shelveFrom N 12 (nI k) (nI (acR W (dg C k p) k)) g = some ((), g') ∧ ShC b g' ∧ (∀ j, j < k → g'.1 19 j = g.1 19 j) ∧ g'.1 12 1 = (fld (fun x => pcF 8 (acR W (dg C K x) K)) (C ^ n) (p * C ^ n) s).1 ∧ Bst C K (fld (fun x => pcF 8 (acR W (dg C K x) K)) (C ^ n) (p * C ^ n) s) (g'.1 13) := by
  obtain ⟨K4, C5, hpos, ⟨r0, r2, r3, r4⟩, bK, bC, bW, bB⟩ := B
  intro n
  induction n with
  | zero =>
    intro k p N g s hk hN hg hrow hm hb
    obtain ⟨N, rfl⟩ : ∃ M, N = M + 1 := ⟨N - 1, by omega⟩
    obtain ⟨e1, e2, e3⟩ := hg
    have hk' : k = K := by omega
    subst hk'
    rw [F_X2_shelveFrom]
    unfold F_X2_shelveFrom_B
    rw [e3 4 (by decide), bK, if_neg (nI_nlt (Nat.le_refl _) (by omega))]
    have hlt : acR W (dg C k p) k < 256 := acR_b (fun j hj => bB j hj _ (dg_lt (hpos (by omega)))) k (Nat.le_refl _)
    rw [bc_x _ hlt, bnd_s, hm, Nat.pow_zero, Nat.mul_one, fld, fld, upB]
    by_cases c : nI (pcF 8 (acR W (dg C k p) k)) ≤ s.1
    · rw [if_pos c, if_pos c]
      exact ⟨g, rfl, ⟨e1, e2, e3⟩, fun _ _ => rfl, hm, hb⟩
    · rw [if_neg c, if_neg c]
      have hac : aCp shC 19 0 13 0 4 = true := by decide +kernel
      have q2 : ∀ v, (pI g 12 1 v).2 = b.2 := fun v => e1
      simp only [nm_x, q2, r0, r3, ob_s, hac, ck_t]
      refine ⟨_, rfl, ⟨e1, ?_, ?_⟩, ?_, ?_, ?_⟩
      · intro q q1 q2 q3
        rw [← e2 q q1 q2 q3]
        funext j
        rw [pC_row q2, pI_1, if_neg (fun z => q1 z.1)]
      · intro j hj
        rw [pC_row (by decide), pI_1, if_neg (fun z => hj z.2), e3 j hj]
      · intro j hj
        rw [pC_row (by decide), pI_1, if_neg (fun z => absurd z.1 (by decide))]
      · rw [pC_row (by decide), pI_1, if_pos (by decide)]
      · intro x hx j hj
        have : p = x := Option.some.inj hx
        subst this
        rw [cp4 (by omega), pI_1, if_neg (fun z => absurd z.1 (by decide))]
        exact hrow j hj
  | succ n ih =>
    intro k p N g s hk hN hg hrow hm hb
    obtain ⟨N, rfl⟩ : ∃ M, N = M + 1 := ⟨N - 1, by omega⟩
    have hC := hpos (by omega)
    rw [F_X2_shelveFrom]
    unfold F_X2_shelveFrom_B
    rw [hg.2.2 4 (by decide), bK, if_pos (nI_lt (show k < K by omega) (by omega))]
    have loop : ∀ (M c : Nat) (g1 : Hp) (s1 : Int32 × Option Nat), c ≤ C → C + 1 ≤ c + M → ShC b g1 → (∀ j, j < k → g1.1 19 j = nI (dg C k p j)) → g1.1 12 1 = s1.1 → Bst C K s1 (g1.1 13) →
        ∃ g', F_X2_shelveFrom_L43 (F_X2_shelveFrom N) 12 (nI k) (nI (acR W (dg C k p) k)) M (nI c) g1 = some ((), g') ∧ ShC b g' ∧ (∀ j, j < k → g'.1 19 j = g1.1 19 j) ∧ g'.1 12 1 = (fld (fun x => pcF 8 (acR W (dg C K x) K)) ((C - c) * C ^ n) ((p * C + c) * C ^ n) s1).1 ∧ Bst C K (fld (fun x => pcF 8 (acR W (dg C K x) K)) ((C - c) * C ^ n) ((p * C + c) * C ^ n) s1) (g'.1 13) := by
      intro M
      induction M with
      | zero => intro c g1 s1 h1 h2; omega
      | succ M ihM =>
        intro c g1 s1 h1 h2 hg1 hrow1 hm1 hb1
        rw [F_X2_shelveFrom_L43, hg1.2.2 5 (by decide), bC]
        by_cases e : c = C
        · subst e
          rw [if_pos (Int32.le_refl _), Nat.sub_self, Nat.zero_mul, fld]
          exact ⟨g1, rfl, hg1, fun _ _ => rfl, hm1, hb1⟩
        · have hc : c < C := by omega
          rw [if_neg (nI_ge hc (by omega))]
          have a19 := aIn_i (sh := shC) (q := 19) (n := 4) (by decide +kernel) (show k < 4 by omega) (by decide)
          have a14 := aRn_i (kd := 3) (sh := shC) (q := 14) (n := 4) (by decide +kernel) (show k < 4 by omega) (by decide)
          have a15 := aIn_i (s15 k (by omega)) (show c < 5 by omega) (by decide)
          have q2 : ∀ v, (pI g1 19 k v).2 = b.2 := fun v => hg1.1
          have hv : ∀ v, (pI g1 19 k v).1 (15 + k) c = nI (W k c) := fun v => by
            rw [pI_1, if_neg (by omega), hg1.2.1 (15 + k) (by omega) (by omega) (by omega)]
            exact bW k (by omega) c hc
          simp only [hg1.1, r3, r2, r4 k (by omega), ob_s, a19, a14, a15, ck_t, nm_x, q2, cl_i (show k < 2 ^ 31 by omega), cl_i (show c < 2 ^ 31 by omega), hv, or_nI, nI_1]
          have hacc : acR W (dg C k p) k ||| W k c = acR W (dg C (k + 1) (p * C + c)) (k + 1) := by
            rw [acR, dg_last hc, acR_c k (fun j hj => dg_init hc hj)]
          rw [hacc]
          obtain ⟨g2, x1, x2, x3, x4, x5⟩ := ih (k + 1) (p * C + c) N (pI g1 19 k (nI c)) s1 (by omega) (by omega) ⟨hg1.1, fun q q1 q2 q3 => by
            rw [← hg1.2.1 q q1 q2 q3]
            funext j
            rw [pI_1, if_neg (fun z => q3 z.1)], fun j hj => by
            rw [pI_1, if_neg (fun z => absurd z.1 (by decide)), hg1.2.2 j hj]⟩ (fun j hj => by
            rw [pI_1]
            by_cases e2 : j = k
            · rw [if_pos ⟨rfl, e2⟩, e2, dg_last hc]
            · rw [if_neg (fun z => e2 z.2), dg_init hc (by omega)]
              exact hrow1 j (by omega)) (by rw [pI_1, if_neg (fun z => absurd z.1 (by decide))]; exact hm1) (fun x hx j hj => by
            rw [pI_1, if_neg (fun z => absurd z.1 (by decide))]
            exact hb1 x hx j hj)
          rw [x1, bnd_s]
          have y19 : ∀ j, j < k → g2.1 19 j = g1.1 19 j := fun j hj => by
            rw [x3 j (by omega), pI_1, if_neg (fun z => absurd z.2 (by omega))]
          obtain ⟨g3, z1, z2, z3, z4, z5⟩ := ihM (c + 1) g2 _ (by omega) (by omega) x2 (fun j hj => by rw [y19 j hj]; exact hrow1 j hj) x4 x5
          have hf : fld (fun x => pcF 8 (acR W (dg C K x) K)) ((C - c) * C ^ n) ((p * C + c) * C ^ n) s1 = fld (fun x => pcF 8 (acR W (dg C K x) K)) ((C - (c + 1)) * C ^ n) ((p * C + (c + 1)) * C ^ n) (fld (fun x => pcF 8 (acR W (dg C K x) K)) (C ^ n) ((p * C + c) * C ^ n) s1) := by
            rw [show (C - c) * C ^ n = C ^ n + (C - (c + 1)) * C ^ n by rw [show C - c = (C - (c + 1)) + 1 by omega, Nat.add_mul, Nat.one_mul]; exact Nat.add_comm _ _, fld_add, show (p * C + c) * C ^ n + C ^ n = (p * C + (c + 1)) * C ^ n by rw [← Nat.add_assoc, Nat.add_mul (p * C + c) 1, Nat.one_mul]]
          rw [hf]
          exact ⟨g3, z1, z2, fun j hj => by rw [z3 j hj, y19 j hj], z4, z5⟩
    obtain ⟨g', y1, y2, y3, y4, y5⟩ := loop FU 0 g s (by omega) (by unfold FU; omega) hg hrow hm hb
    rw [nI_0] at y1
    rw [Nat.sub_zero, Nat.add_zero, ← Nat.pow_succ', Nat.mul_assoc, ← Nat.pow_succ'] at y4 y5
    exact ⟨g', y1, y2, y3, y4, y5⟩
