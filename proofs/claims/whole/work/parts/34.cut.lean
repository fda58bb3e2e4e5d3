/-! the least cutting: rows of depths -/
def SubT (A S : Nat) : Prop := ∀ i, A.testBit i = true → S.testBit i = true
theorem sub_x {A S : Nat} (hA : A < 256) (hS : S < 256) : (nI A &&& (nI S ^^^ (-1 : Int32)) = 0) ↔ SubT A S := by
  have hv : (nI A &&& (nI S ^^^ (-1 : Int32))).toBitVec = BitVec.ofNat 32 A &&& ~~~ BitVec.ofNat 32 S := by
    rw [Int32.toBitVec_and, Int32.toBitVec_xor, show (-1 : Int32).toBitVec = BitVec.allOnes 32 from rfl, BitVec.xor_allOnes]
    rfl
  constructor
  · intro h i hi
    have h0 : BitVec.ofNat 32 A &&& ~~~ BitVec.ofNat 32 S = 0#32 := by
      rw [← hv, h]
      rfl
    have hi8 : i < 8 := by
      rcases Nat.lt_or_ge i 8 with q | q
      · exact q
      · rw [Nat.testBit_lt_two_pow (Nat.lt_of_lt_of_le (show A < 2 ^ 8 from hA) (Nat.pow_le_pow_right (n := 2) (by decide) q))] at hi
        cases hi
    have h1 := congrArg (fun v => BitVec.getLsbD v i) h0
    simp only [BitVec.getLsbD_and, BitVec.getLsbD_not, BitVec.getLsbD_ofNat, BitVec.getLsbD_zero, show i < 32 by omega, decide_true, Bool.true_and, hi] at h1
    simpa using h1
  · intro h
    apply Int32.toBitVec_inj.mp
    rw [hv]
    apply BitVec.eq_of_getLsbD_eq
    intro i hi
    simp only [BitVec.getLsbD_and, BitVec.getLsbD_not, BitVec.getLsbD_ofNat, hi, decide_true, Bool.true_and]
    have := h i
    cases hA : A.testBit i with
    | false => simp
    | true => rw [this hA]; simp
theorem acR_t {W : Nat → Nat → Nat} {ρ : Nat → Nat} {i : Nat} : ∀ n, (acR W ρ n).testBit i = true ↔ ∃ j, j < n ∧ (W j (ρ j)).testBit i = true := by
  intro n
  induction n with
  | zero =>
    constructor
    · intro h
      rw [acR, Nat.zero_testBit] at h
      cases h
    · rintro ⟨j, hj, -⟩
      omega
  | succ n ih =>
    rw [acR, Nat.testBit_or, Bool.or_eq_true, ih]
    constructor
    · rintro (⟨j, hj, e⟩ | e)
      · exact ⟨j, by omega, e⟩
      · exact ⟨n, by omega, e⟩
    · rintro ⟨j, hj, e⟩
      by_cases q : j = n
      · subst q
        exact Or.inr e
      · exact Or.inl ⟨j, by omega, e⟩
def orT (f : Nat → Nat) : Nat → Nat → Nat
  | 0, _ => 0
  | n + 1, k => orT f n (k + 1) ||| f k
theorem orT_t {f : Nat → Nat} {i : Nat} : ∀ n k, (orT f n k).testBit i = true ↔ ∃ j, k ≤ j ∧ j < k + n ∧ (f j).testBit i = true := by
  intro n
  induction n with
  | zero =>
    intro k
    constructor
    · intro h
      rw [orT, Nat.zero_testBit] at h
      cases h
    · rintro ⟨j, hj, hj2, -⟩
      omega
  | succ n ih =>
    intro k
    rw [orT, Nat.testBit_or, Bool.or_eq_true, ih]
    constructor
    · rintro (⟨j, h1, h2, e⟩ | e)
      · exact ⟨j, by omega, by omega, e⟩
      · exact ⟨k, by omega, by omega, e⟩
    · rintro ⟨j, h1, h2, e⟩
      by_cases q : j = k
      · subst q
        exact Or.inr e
      · exact Or.inl ⟨j, by omega, by omega, e⟩
theorem orT_b {f : Nat → Nat} {K : Nat} (hf : ∀ j, j < K → f j < 256) : ∀ n k, k + n ≤ K → orT f n k < 256 := by
  intro n
  induction n with
  | zero => intro k _; exact (by decide : 0 < 256)
  | succ n ih =>
    intro k h
    exact Nat.or_lt_two_pow (n := 8) (ih (k + 1) (by omega)) (hf k (by omega))
def smR (ρ : Nat → Nat) : Nat → Nat
  | 0 => 0
  | n + 1 => smR ρ n + ρ n
theorem smR_c {ρ ρ' : Nat → Nat} : ∀ n, (∀ j, j < n → ρ j = ρ' j) → smR ρ n = smR ρ' n := by
  intro n
  induction n with
  | zero => intro _; rfl
  | succ n ih =>
    intro h
    rw [smR, smR, ih (fun j hj => h j (by omega)), h n (by omega)]
theorem smR_le {ρ : Nat → Nat} (k : Nat) : ∀ n, smR ρ k ≤ smR ρ (k + n) := by
  intro n
  induction n with
  | zero => exact Nat.le_refl _
  | succ n ih =>
    rw [show k + (n + 1) = (k + n) + 1 by omega, smR]
    omega
theorem smR_b {ρ : Nat → Nat} : ∀ n, (∀ j, j < n → ρ j < 9) → smR ρ n ≤ 8 * n := by
  intro n
  induction n with
  | zero => intro _; exact Nat.le_refl _
  | succ n ih =>
    intro h
    have := ih (fun j hj => h j (by omega))
    have := h n (by omega)
    rw [smR]
    omega
theorem smR_dec {ρ ρ' : Nat → Nat} {k : Nat} (hk : ρ' k + 1 = ρ k) : ∀ n, (∀ j, j < n → j ≠ k → ρ' j = ρ j) → k < n → smR ρ' n + 1 = smR ρ n := by
  intro n
  induction n with
  | zero => intro _ h; omega
  | succ n ih =>
    intro h hn
    rw [smR, smR]
    by_cases e : k = n
    · subst e
      rw [smR_c k (fun j hj => h j (by omega) (by omega))]
      omega
    · have := ih (fun j hj hj2 => h j (by omega) hj2) (by omega)
      rw [h n (by omega) (by omega)]
      omega
theorem dg_pre {B k n y p j : Nat} (hy : y / B ^ n = p) (hj : j < k) : dg B (k + n) y j = dg B k p j := by
  unfold dg
  rw [← hy, Nat.div_div_eq_div_mul, ← Nat.pow_add, show n + (k - 1 - j) = k + n - 1 - j by omega]
theorem dg_tail {B k m y j : Nat} (hB : 0 < B) (hj : k < j) (hj2 : j < k + (m + 1)) : dg B (k + (m + 1)) (y + B ^ m) j = dg B (k + (m + 1)) y j := by
  unfold dg
  have e : B ^ m = B ^ (k + (m + 1) - 1 - j) * (B ^ (j - k - 1) * B) := by
    rw [← Nat.pow_succ, ← Nat.pow_add]
    congr 1
    omega
  rw [e, Nat.add_mul_div_left _ _ (Nat.pow_pos hB), Nat.add_mul_mod_self_right]
/-- the row of number x is a cutting of the told words -/
def VA (D : Nat → Nat → Nat) (dp : Nat → Nat) (A K x : Nat) : Prop := (∀ j, j < K → dg 9 K x j ≤ dp j) ∧ SubT A (acR D (dg 9 K x) K)
def smX (K x : Nat) : Nat := smR (dg 9 K x) K
/-- the first of the shortest below X -/
def Opt (V : Nat → Prop) (f : Nat → Nat) (X : Nat) : Option Nat → Prop
  | none => ∀ y, y < X → ¬ V y
  | some x => x < X ∧ V x ∧ (∀ y, y < X → V y → f x ≤ f y) ∧ ∀ y, y < x → V y → f x < f y
theorem opt_u {V : Nat → Prop} {f : Nat → Nat} {X : Nat} {s s' : Option Nat} (h : Opt V f X s) (h' : Opt V f X s') : s = s' := by
  cases s with
  | none =>
    cases s' with
    | none => rfl
    | some x => exact absurd h'.2.1 (h x h'.1)
  | some x =>
    cases s' with
    | none => exact absurd h.2.1 (h' x h.1)
    | some y =>
      obtain ⟨a1, a2, a3, a4⟩ := h
      obtain ⟨b1, b2, b3, b4⟩ := h'
      have : x = y := by
        rcases Nat.lt_trichotomy x y with q | q | q
        · have := b4 x q a2
          have := a3 y b1 b2
          omega
        · exact q
        · have := a4 y q b2
          have := b3 x a1 a2
          omega
      rw [this]
theorem opt_skip {V : Nat → Prop} {f : Nat → Nat} {X X' : Nat} {s : Option Nat} (h : Opt V f X s) (hX : X ≤ X') (hd : ∀ y, X ≤ y → y < X' → V y → ∃ x, s = some x ∧ f x ≤ f y) : Opt V f X' s := by
  cases s with
  | none =>
    intro y hy hv
    rcases Nat.lt_or_ge y X with q | q
    · exact h y q hv
    · obtain ⟨x, e, -⟩ := hd y q hy hv
      cases e
  | some x =>
    obtain ⟨a1, a2, a3, a4⟩ := h
    refine ⟨by omega, a2, fun y hy hv => ?_, a4⟩
    rcases Nat.lt_or_ge y X with q | q
    · exact a3 y q hv
    · obtain ⟨z, e, h1⟩ := hd y q hy hv
      cases e
      exact h1
theorem opt_new {V : Nat → Prop} {f : Nat → Nat} {x : Nat} {s : Option Nat} (h : Opt V f x s) (hv : V x) (hs : ∀ y, s = some y → f x < f y) : Opt V f (x + 1) (some x) := by
  have hb : ∀ y, y < x → V y → f x < f y := by
    intro y hy hv
    cases s with
    | none => exact absurd hv (h y hy)
    | some z =>
      have := hs z rfl
      have := h.2.2.1 y hy hv
      omega
  refine ⟨by omega, hv, fun y hy hv => ?_, hb⟩
  by_cases e : y = x
  · rw [e]
    exact Nat.le_refl _
  · exact Nat.le_of_lt (hb y (by omega) hv)
def SpC (b g : Hp) : Prop := g.2 = b.2 ∧ (∀ q, q ≠ 2 → q ≠ 3 → q ≠ 11 → g.1 q = b.1 q) ∧ ∀ j, j ≠ 1 → g.1 2 j = b.1 2 j
def fwS2 (K : Nat) (g : Hp) : Option Nat → Prop
  | none => g.1 2 1 = -9
  | some x => g.1 2 1 = nI (smX K x) ∧ ∀ j, j < K → g.1 3 j = nI (dg 9 K x j)
def SpB (b : Hp) (K A : Nat) (D : Nat → Nat → Nat) (dp : Nat → Nat) : Prop := K ≤ 4 ∧ A < 256 ∧ (b.2 2 0 = some 3 ∧ b.2 2 2 = some 4 ∧ b.2 2 3 = some 9 ∧ b.2 2 4 = some 10 ∧ b.2 2 5 = some 11 ∧ ∀ k, k < 4 → b.2 4 k = some (5 + k)) ∧ b.1 2 6 = nI K ∧ b.1 2 7 = nI A ∧ (∀ k, k < K → dp k ≤ 8 ∧ b.1 9 k = nI (dp k) ∧ ∀ e, e ≤ dp k → b.1 (5 + k) e = nI (D k e)) ∧ (∀ k, k ≤ K → b.1 10 k = nI (orT (fun j => D j (dp j)) (K - k) k)) ∧ (∀ k, k < K → ∀ e, D k e < 256) ∧ ∀ k, k < K → ∀ e e', e ≤ e' → SubT (D k e) (D k e')
theorem s5 : ∀ k, k < 4 → shC[5 + k]? = some (1, 9) := by decide +kernel
theorem cp3 {g : Hp} {j : Nat} (hj : j < 4) : (pC g 11 3 (0 : Int32).toNatClampNeg (0 : Int32).toNatClampNeg (4 : Int32).toNatClampNeg).1 3 j = g.1 11 j := by
  have : (4 : Int32).toNatClampNeg = 4 := rfl
  unfold pC va_cpy
  rw [this]
  simp
  intro
  omega
theorem range_d {B p n y : Nat} (h1 : p * B ^ n ≤ y) (h2 : y < (p + 1) * B ^ n) : y / B ^ n = p := by
  have hpos : 0 < B ^ n := by
    rcases Nat.eq_zero_or_pos (B ^ n) with q | q
    · rw [q, Nat.mul_zero] at h2
      omega
    · exact q
  rw [Nat.div_eq_iff hpos]
  rw [Nat.add_mul, Nat.one_mul] at h2
  omega
