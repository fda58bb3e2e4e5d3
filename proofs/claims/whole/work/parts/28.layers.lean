/-! sets of talks as bits, layers as lists -/
theorem or_nI (a b : Nat) : nI a ||| nI b = nI (a ||| b) := by
  apply Int32.toBitVec_inj.mp
  show BitVec.ofNat 32 a ||| BitVec.ofNat 32 b = BitVec.ofNat 32 (a ||| b)
  apply BitVec.eq_of_toNat_eq
  rw [BitVec.toNat_or, BitVec.toNat_ofNat, BitVec.toNat_ofNat, BitVec.toNat_ofNat]
  exact (Nat.or_mod_two_pow (a := a) (b := b) (n := 32)).symm
theorem and_nI (a b : Nat) : nI a &&& nI b = nI (a &&& b) := by
  apply Int32.toBitVec_inj.mp
  show BitVec.ofNat 32 a &&& BitVec.ofNat 32 b = BitVec.ofNat 32 (a &&& b)
  apply BitVec.eq_of_toNat_eq
  rw [BitVec.toNat_and, BitVec.toNat_ofNat, BitVec.toNat_ofNat, BitVec.toNat_ofNat]
  exact (Nat.and_mod_two_pow (a := a) (b := b) (n := 32)).symm
theorem shl_nI : ∀ t, t < 16 → (1 : Int32) <<< (nI t &&& 31) = nI (2 ^ t) := by decide +kernel
theorem sm_nI : ∀ t, t < 32 → ((nI t &&& 31).toBitVec.smod 32).toNat = t := by decide +kernel
theorem bit_nI {H t : Nat} (hH : H < 2 ^ 31) (ht : t < 32) : (nI H >>> (nI t &&& 31)) &&& 1 = nI (H / 2 ^ t % 2) := by
  rw [pk_shrN hH _ t (sm_nI t ht), pk_andN (k := 1) (Nat.lt_of_le_of_lt (Nat.div_le_self _ _) (by omega)) (by decide)]
  rfl
def bitQ (H t : Nat) : Bool := decide (H / 2 ^ t % 2 = 1)
theorem bit_0 {H t : Nat} (hH : H < 2 ^ 31) (ht : t < 32) : ((nI H >>> (nI t &&& 31)) &&& 1 = 0) = (bitQ H t = false) := by
  rw [bit_nI hH ht]
  unfold bitQ
  have h2 : H / 2 ^ t % 2 < 2 := Nat.mod_lt _ (by decide)
  apply propext
  constructor
  · intro h
    have := (nI_eq (b := 0) (by omega) (by decide)).mp h
    simp [this]
  · intro h
    have h3 : ¬ H / 2 ^ t % 2 = 1 := by simpa using h
    rw [show H / 2 ^ t % 2 = 0 by omega]
    rfl
theorem bit_1 {H t : Nat} (hH : H < 2 ^ 31) (ht : t < 32) : ((nI H >>> (nI t &&& 31)) &&& 1 = 1) = (bitQ H t = true) := by
  rw [bit_nI hH ht]
  unfold bitQ
  have h2 : H / 2 ^ t % 2 < 2 := Nat.mod_lt _ (by decide)
  apply propext
  constructor
  · intro h
    have := (nI_eq (b := 1) (by omega) (by decide)).mp h
    simp [this]
  · intro h
    have h3 : H / 2 ^ t % 2 = 1 := by simpa using h
    rw [h3]
    rfl
def lys (H : Nat) : Nat → List Nat
  | 0 => []
  | n + 1 => if bitQ H n then n :: lys H n else lys H n
theorem lys_lt {H : Nat} : ∀ {n t : Nat}, t ∈ lys H n → t < n := by
  intro n
  induction n with
  | zero => intro t h; cases h
  | succ n ih =>
    intro t h
    rw [lys] at h
    split at h
    · rcases List.mem_cons.mp h with q | q
      · omega
      · have := ih q
        omega
    · have := ih h
      omega
def atL (L : List Nat) (l : Nat) : Int32 := match L[l]? with
  | some t => nI t
  | none => -9
theorem pm_0 : nI 0 - 1 = -1 := by decide
theorem pm_s (n : Nat) : nI (n + 1) - 1 = nI n := nI_pred n
theorem pm_d (n : Nat) : nI n + (-1) = nI n - 1 := by
  apply Int32.toInt_inj.mp
  rw [show nI n - 1 = nI n + (-1) from ?_]
  apply Int32.toBitVec_inj.mp
  rw [Int32.toBitVec_sub, Int32.toBitVec_add]
  rw [show (-1 : Int32).toBitVec = -(1#32) from rfl, show (1 : Int32).toBitVec = 1#32 from rfl, BitVec.sub_eq_add_neg]
theorem talkAt_L {H : Nat} (hH : H < 2 ^ 31) (h : Hp) : ∀ (N n l : Nat), n ≤ 8 → l < 2 ^ 31 → n + 1 ≤ N → F_X0_talkAt_L10 (nI H) N (nI l) (nI n - 1) h = some (atL (lys H n) l, h) := by
  intro N
  induction N with
  | zero => intro n l h1 h2 h3; omega
  | succ N ih =>
    intro n l h1 h2 h3
    rw [F_X0_talkAt_L10]
    cases n with
    | zero =>
      rw [pm_0, if_pos (by decide)]
      rfl
    | succ n =>
      rw [pm_s, if_neg (nI_pos (by omega)), lys]
      simp only [bit_0 hH (show n < 32 by omega), nm_x, pm_d]
      cases hb : bitQ H n with
      | false =>
        simp only [if_true, Bool.false_eq_true, if_false]
        exact ih n l (by omega) h2 (by omega)
      | true =>
        simp only [Bool.true_eq_false, if_false, if_true]
        cases l with
        | zero => rfl
        | succ l =>
          rw [if_neg (nI_ne0 (by omega) h2), pm_s]
          exact ih n l (by omega) (by omega) (by omega)
theorem layerOf_L {H : Nat} (hH : H < 2 ^ 31) (k : Hp) : ∀ (N n l : Nat), n ≤ 8 → l < 2 ^ 31 → n + 1 ≤ N → F_X7_layerOf_L10 (nI H) N (nI l) (nI n - 1) k = some (atL (lys H n) l, k) := by
  intro N
  induction N with
  | zero => intro n l h1 h2 h3; omega
  | succ N ih =>
    intro n l h1 h2 h3
    rw [F_X7_layerOf_L10]
    cases n with
    | zero =>
      rw [pm_0, if_pos (by decide)]
      rfl
    | succ n =>
      rw [pm_s, if_neg (nI_pos (by omega)), lys]
      simp only [bit_1 hH (show n < 32 by omega), nm_x, pm_d]
      cases hb : bitQ H n with
      | false =>
        simp only [if_true, Bool.false_eq_true, if_false]
        exact ih n l (by omega) h2 (by omega)
      | true =>
        simp only [Bool.true_eq_false, if_false, if_true]
        cases l with
        | zero => rfl
        | succ l =>
          rw [if_neg (nI_ne0 (by omega) h2), pm_s]
          exact ih n l (by omega) (by omega) (by omega)
theorem talkAt_x {h : Hp} {d T H l : Nat} (hT : h.1 d 2 = nI T) (hT8 : T ≤ 8) (hH : H < 2 ^ 31) (hl : l < 2 ^ 31) : F_X0_talkAt d (nI H) (nI l) h = some (atL (lys H T) l, h) := by
  unfold F_X0_talkAt
  rw [hT, nm_x]
  exact talkAt_L hH h FU T l hT8 hl (by unfold FU; omega)
theorem layerOf_x {k : Hp} {T H l : Nat} (hT : k.1 0 7 = nI T) (hT8 : T ≤ 8) (hH : H < 2 ^ 31) (hl : l < 2 ^ 31) : F_X7_layerOf 0 (nI H) (nI l) k = some (atL (lys H T) l, k) := by
  unfold F_X7_layerOf
  rw [hT, nm_x]
  exact layerOf_L hH k FU T l hT8 hl (by unfold FU; omega)
/-! how many bits -/
def pcF : Nat → Nat → Nat
  | 0, _ => 0
  | n + 1, H => H % 2 + pcF n (H / 2)
theorem pcF_top : ∀ n H, pcF (n + 1) H = pcF n H + H / 2 ^ n % 2 := by
  intro n
  induction n with
  | zero => intro H; simp [pcF]
  | succ n ih =>
    intro H
    rw [pcF, ih, pcF, Nat.div_div_eq_div_mul, show 2 * 2 ^ n = 2 ^ (n + 1) by rw [Nat.pow_succ]; omega]
    omega
theorem lys_len (H : Nat) : ∀ n, (lys H n).length = pcF n H := by
  intro n
  induction n with
  | zero => rfl
  | succ n ih =>
    rw [lys, pcF_top]
    unfold bitQ
    have h2 : H / 2 ^ n % 2 < 2 := Nat.mod_lt _ (by decide)
    split
    · next c =>
      have : H / 2 ^ n % 2 = 1 := by simpa using c
      rw [List.length_cons, ih, this]
    · next c =>
      have : ¬ H / 2 ^ n % 2 = 1 := by simpa using c
      rw [ih]
      omega
theorem pcF_le : ∀ n H, pcF n H ≤ n := by
  intro n
  induction n with
  | zero => intro H; exact Nat.le_refl _
  | succ n ih =>
    intro H
    rw [pcF]
    have := ih (H / 2)
    omega
theorem size_L (k : Hp) : ∀ (F N c H : Nat), H < 2 ^ F → F ≤ 20 → F + 1 ≤ N → c < 100 → F_X7_size_L4 N (nI c) (nI H) k = some (nI (c + pcF F H), k) := by
  intro F
  induction F with
  | zero =>
    intro N c H h1 h2 h3 h4
    have hH : H = 0 := by simpa using h1
    subst hH
    cases N with
    | zero => omega
    | succ N =>
      rw [F_X7_size_L4, if_pos (by decide)]
      rfl
  | succ F ih =>
    intro N c H h1 h2 h3 h4
    cases N with
    | zero => omega
    | succ N =>
      have hb : H < 2 ^ 31 := Nat.lt_of_lt_of_le h1 (Nat.pow_le_pow_right (by decide) (by omega))
      rw [F_X7_size_L4]
      by_cases e : H = 0
      · subst e
        rw [if_pos (by decide)]
        have : ∀ F, pcF F 0 = 0 := by
          intro F
          induction F with
          | zero => rfl
          | succ F ih => rw [pcF, Nat.zero_div, ih]
        rw [this]
        rfl
      · rw [if_neg (nI_nle (by omega) hb), nm_x, nm_x, pk_andN (k := 1) (by omega) (by decide), pk_shrN hb _ 1 (by decide), nI_add, Nat.pow_one, pcF, ← Nat.add_assoc]
        exact ih N (c + H % 2) (H / 2) (by rw [Nat.pow_succ] at h1; omega) (by omega) (by omega) (by sorry)
