/-! sets of talks as bits, layers as lists -/
theorem or_nI (a b : Nat) : nI a ||| nI b = nI (a ||| b) := by
  apply Int32.toBitVec_inj.mp
  show BitVec.ofNat 32 a ||| BitVec.ofNat 32 b = BitVec.ofNat 32 (a ||| b)
  apply BitVec.eq_of_toNat_eq
  rw [BitVec.toNat_or, BitVec.toNat_ofNat, BitVec.toNat_ofNat, BitVec.toNat_ofNat]
  exact (Nat.or_mod_two_pow (a := a) (b := b) (n := 32)).symm
theorem and_nI (a b : Nat) : nI a &&& nI b = nI (a &&& b) := by
  apply Int32.toBitVec_inj.mp
  show BitVec.ofNat 32 a &&& BitVec.ofNat 32 b = BitVec.ofNat 32 (a &&& b)
  apply BitVec.eq_of_toNat_eq
  rw [BitVec.toNat_and, BitVec.toNat_ofNat, BitVec.toNat_ofNat, BitVec.toNat_ofNat]
  exact (Nat.and_mod_two_pow (a := a) (b := b) (n := 32)).symm
theorem shl_nI : ∀ t, t < 16 → (1 : Int32) <<< (nI t &&& 31) = nI (2 ^ t) := by decide +kernel
theorem sm_nI : ∀ t, t < 32 → ((nI t &&& 31).toBitVec.smod 32).toNat = t := by decide +kernel
theorem bit_nI {H t : Nat} (hH : H < 2 ^ 31) (ht : t < 32) : (nI H >>> (nI t &&& 31)) &&& 1 = nI (H / 2 ^ t % 2) := by
  rw [pk_shrN hH _ t (sm_nI t ht), pk_andN (k := 1) (Nat.lt_of_le_of_lt (Nat.div_le_self _ _) (by omega)) (by decide)]
def bitQ (H t : Nat) : Bool := decide (H / 2 ^ t % 2 = 1)
theorem bit_0 {H t : Nat} (hH : H < 2 ^ 31) (ht : t < 32) : ((nI H >>> (nI t &&& 31)) &&& 1 = 0) = (bitQ H t = false) := by
  rw [bit_nI hH ht]
  unfold bitQ
  have h2 : H / 2 ^ t % 2 < 2 := Nat.mod_lt _ (by decide)
  apply propext
  constructor
  · intro h
    have := (nI_eq (b := 0) (by omega) (by decide)).mp h
    simp [this]
  · intro h
    have h3 : ¬ H / 2 ^ t % 2 = 1 := by simpa using h
    rw [show H / 2 ^ t % 2 = 0 by omega]
    rfl
theorem bit_1 {H t : Nat} (hH : H < 2 ^ 31) (ht : t < 32) : ((nI H >>> (nI t &&& 31)) &&& 1 = 1) = (bitQ H t = true) := by
  rw [bit_nI hH ht]
  unfold bitQ
  have h2 : H / 2 ^ t % 2 < 2 := Nat.mod_lt _ (by decide)
  apply propext
  constructor
  · intro h
    have := (nI_eq (b := 1) (by omega) (by decide)).mp h
    simp [this]
  · intro h
    have h3 : H / 2 ^ t % 2 = 1 := by simpa using h
    rw [h3]
    rfl
def lys (H : Nat) : Nat → List Nat
  | 0 => []
  | n + 1 => if bitQ H n then n :: lys H n else lys H n
theorem lys_lt {H : Nat} : ∀ {n t : Nat}, t ∈ lys H n → t < n := by
  intro n
  induction n with
  | zero => intro t h; cases h
  | succ n ih =>
    intro t h
    rw [lys] at h
    split at h
    · rcases List.mem_cons.mp h with q | q
      · omega
      · have := ih q
        omega
    · have := ih h
      omega
def atL (L : List Nat) (l : Nat) : Int32 := match L[l]? with
  | some t => nI t
  | none => -9
theorem pm_0 : nI 0 - 1 = -1 := by decide
theorem pm_s (n : Nat) : nI (n + 1) - 1 = nI n := nI_pred n
theorem pm_d (n : Nat) : nI n + (-1) = nI n - 1 := by
  apply Int32.toInt_inj.mp
  rw [show nI n - 1 = nI n + (-1) from ?_]
  apply Int32.toBitVec_inj.mp
  rw [Int32.toBitVec_sub, Int32.toBitVec_add]
  rw [show (-1 : Int32).toBitVec = -(1#32) from rfl, show (1 : Int32).toBitVec = 1#32 from rfl, BitVec.sub_eq_add_neg]
theorem talkAt_L {H : Nat} (hH : H < 2 ^ 31) (h : Hp) : ∀ (N n l : Nat), n ≤ 8 → l < 2 ^ 31 → n + 1 ≤ N → F_X0_talkAt_L10 (nI H) N (nI l) (nI n - 1) h = some (atL (lys H n) l, h) := by
  intro N
  induction N with
  | zero => intro n l h1 h2 h3; omega
  | succ N ih =>
    intro n l h1 h2 h3
    rw [F_X0_talkAt_L10]
    cases n with
    | zero =>
      rw [pm_0, if_pos (by decide)]
      rfl
    | succ n =>
      rw [pm_s, if_neg (nI_pos (by omega)), lys]
      simp only [bit_0 hH (show n < 32 by omega), nm_x, pm_d]
      cases hb : bitQ H n with
      | false =>
        simp only [if_true, Bool.false_eq_true, if_false]
        exact ih n l (by omega) h2 (by omega)
      | true =>
        simp only [Bool.true_eq_false, if_false, if_true]
        cases l with
        | zero => rfl
        | succ l =>
          rw [if_neg (nI_ne0 (by omega) h2), pm_s]
          exact ih n l (by omega) (by omega) (by omega)
theorem layerOf_L {H : Nat} (hH : H < 2 ^ 31) (k : Hp) : ∀ (N n l : Nat), n ≤ 8 → l < 2 ^ 31 → n + 1 ≤ N → F_X7_layerOf_L10 (nI H) N (nI l) (nI n - 1) k = some (atL (lys H n) l, k) := by
  intro N
  induction N with
  | zero => intro n l h1 h2 h3; omega
  | succ N ih =>
    intro n l h1 h2 h3
    rw [F_X7_layerOf_L10]
    cases n with
    | zero =>
      rw [pm_0, if_pos (by decide)]
      rfl
    | succ n =>
      rw [pm_s, if_neg (nI_pos (by omega)), lys]
      simp only [bit_1 hH (show n < 32 by omega), nm_x, pm_d]
      cases hb : bitQ H n with
      | false =>
        simp only [if_true, Bool.false_eq_true, if_false]
        exact ih n l (by omega) h2 (by omega)
      | true =>
        simp only [Bool.true_eq_false, if_false, if_true]
        cases l with
        | zero => rfl
        | succ l =>
          rw [if_neg (nI_ne0 (by omega) h2), pm_s]
          exact ih n l (by omega) (by omega) (by omega)
theorem talkAt_x {h : Hp} {d T H l : Nat} (hT : h.1 d 2 = nI T) (hT8 : T ≤ 8) (hH : H < 2 ^ 31) (hl : l < 2 ^ 31) : F_X0_talkAt d (nI H) (nI l) h = some (atL (lys H T) l, h) := by
  unfold F_X0_talkAt
  rw [hT, nm_x]
  exact talkAt_L hH h FU T l hT8 hl (by unfold FU; omega)
theorem layerOf_x {k : Hp} {T H l : Nat} (hT : k.1 0 7 = nI T) (hT8 : T ≤ 8) (hH : H < 2 ^ 31) (hl : l < 2 ^ 31) : F_X7_layerOf 0 (nI H) (nI l) k = some (atL (lys H T) l, k) := by
  unfold F_X7_layerOf
  rw [hT, nm_x]
  exact layerOf_L hH k FU T l hT8 hl (by unfold FU; omega)
/-! how many bits -/
def pcF : Nat → Nat → Nat
  | 0, _ => 0
  | n + 1, H => H % 2 + pcF n (H / 2)
theorem pcF_top : ∀ n H, pcF (n + 1) H = pcF n H + H / 2 ^ n % 2 := by
  intro n
  induction n with
  | zero => intro H; simp [pcF]
  | succ n ih =>
    intro H
    rw [pcF, ih, pcF, Nat.div_div_eq_div_mul, show 2 * 2 ^ n = 2 ^ (n + 1) by rw [Nat.pow_succ]; omega]
    omega
theorem lys_len (H : Nat) : ∀ n, (lys H n).length = pcF n H := by
  intro n
  induction n with
  | zero => rfl
  | succ n ih =>
    rw [lys, pcF_top]
    unfold bitQ
    have h2 : H / 2 ^ n % 2 < 2 := Nat.mod_lt _ (by decide)
    split
    · next c =>
      have : H / 2 ^ n % 2 = 1 := by simpa using c
      rw [List.length_cons, ih, this]
    · next c =>
      have : ¬ H / 2 ^ n % 2 = 1 := by simpa using c
      rw [ih]
      omega
theorem pcF_le : ∀ n H, pcF n H ≤ n := by
  intro n
  induction n with
  | zero => intro H; exact Nat.le_refl _
  | succ n ih =>
    intro H
    rw [pcF]
    have := ih (H / 2)
    omega
theorem size_L (k : Hp) : ∀ (F N c H : Nat), H < 2 ^ F → F ≤ 20 → F + 1 ≤ N → F_X7_size_L4 N (nI c) (nI H) k = some (nI (c + pcF F H), k) := by
  intro F
  induction F with
  | zero =>
    intro N c H h1 h2 h3
    have hH : H = 0 := by simpa using h1
    subst hH
    cases N with
    | zero => omega
    | succ N =>
      rw [F_X7_size_L4, if_pos (by decide)]
      rfl
  | succ F ih =>
    intro N c H h1 h2 h3
    cases N with
    | zero => omega
    | succ N =>
      have hb : H < 2 ^ 31 := Nat.lt_of_lt_of_le h1 (Nat.pow_le_pow_right (by decide) (by omega))
      rw [F_X7_size_L4]
      by_cases e : H = 0
      · subst e
        rw [if_pos (by decide)]
        have : ∀ F, pcF F 0 = 0 := by
          intro F
          induction F with
          | zero => rfl
          | succ F ih => rw [pcF, Nat.zero_div, ih]
        rw [this]
        rfl
      · rw [if_neg (nI_nle (by omega) hb), nm_x, nm_x, pk_andN (k := 1) (by omega) (by decide), pk_shrN hb _ 1 (by decide), nI_add, Nat.pow_one, pcF, ← Nat.add_assoc]
        exact ih N (c + H % 2) (H / 2) (by rw [Nat.pow_succ] at h1; omega) (by omega) (by omega)
theorem size_x {k : Hp} {H T : Nat} (hH : H < 2 ^ T) (hT : T ≤ 8) : F_X7_size (nI H) k = some (nI (lys H T).length, k) := by
  unfold F_X7_size
  have h1 := size_L k T FU 0 H hH (by omega) (by unfold FU; omega)
  rw [nI_0, Nat.zero_add, ← lys_len] at h1
  exact h1
theorem lys_le (H : Nat) (n : Nat) : (lys H n).length ≤ n := by
  rw [lys_len]
  exact pcF_le n H
/-! the words of layers -/
def orL (wd : Nat → Int32) : List Nat → Int32 → Int32
  | [], s => s
  | t :: L, s => orL wd L (s ||| (1 <<< (wd t &&& 31)))
theorem orL_c {wd wd' : Nat → Int32} : ∀ (L : List Nat) (s : Int32), (∀ t, t ∈ L → wd t = wd' t) → orL wd L s = orL wd' L s := by
  intro L
  induction L with
  | nil => intro s _; rfl
  | cons t L ih =>
    intro s h
    rw [orL, orL, h t List.mem_cons_self]
    exact ih _ (fun x hx => h x (List.mem_cons_of_mem _ hx))
theorem wordsDown_L {h : Hp} {d : Nat} (hD : DR h d) (hS : SD d) {H : Nat} (hH : H < 2 ^ 31) : ∀ (N n l : Nat) (s : Int32), n ≤ 8 → l < 2 ^ 31 → n + 1 ≤ N → F_X0_wordsDown_L13 d (nI H) N s (nI l) (nI n - 1) h = some (orL (h.1 (d + 7)) ((lys H n).take l) s, h) := by
  unfold DR at hD
  unfold SD at hS
  intro N
  induction N with
  | zero => intro n l s h1 h2 h3; omega
  | succ N ih =>
    intro n l s h1 h2 h3
    rw [F_X0_wordsDown_L13]
    cases n with
    | zero =>
      rw [pm_0, if_pos (by decide), lys, List.take_nil]
      rfl
    | succ n =>
      rw [pm_s, if_neg (nI_pos (by omega))]
      cases l with
      | zero =>
        rw [if_pos (by decide), List.take_zero]
        rfl
      | succ l =>
        rw [if_neg (nI_nle (by omega) h2), lys]
        have a7 := aIn_i hS.2.2.2.2.2.2.2.1 (show n < 8 by omega) (by decide)
        simp only [bit_0 hH (show n < 32 by omega), nm_x, pm_d, hD, ob_s, a7, ck_t, cl_i (show n < 2 ^ 31 by omega), pm_s]
        cases hb : bitQ H n with
        | false =>
          simp only [if_true, Bool.false_eq_true, if_false]
          exact ih n (l + 1) s (by omega) h2 (by omega)
        | true =>
          simp only [Bool.true_eq_false, if_false, if_true]
          rw [List.take_succ_cons, orL]
          exact ih n l _ (by omega) (by omega) (by omega)
theorem wordsDown_x {h : Hp} {d : Nat} (hD : DR h d) (hS : SD d) {T H l : Nat} (hT : h.1 d 2 = nI T) (hT8 : T ≤ 8) (hH : H < 2 ^ 31) (hl : l < 2 ^ 31) : F_X0_wordsDown d (nI H) (nI l) h = some (orL (h.1 (d + 7)) ((lys H T).take l) 0, h) := by
  unfold F_X0_wordsDown
  rw [hT, nm_x]
  exact wordsDown_L hD hS hH FU T l 0 hT8 hl (by unfold FU; omega)
theorem atL_in {L : List Nat} {c : Nat} (hc : c < L.length) : atL L c = nI L[c] := by
  unfold atL
  rw [List.getElem?_eq_getElem hc]
theorem wordsOf_L {k : Hp} (hM : RM k) {T H l : Nat} (hT : k.1 0 7 = nI T) (hT8 : T ≤ 8) (hH : H < 2 ^ T) (hl : l < 2 ^ 31) : ∀ (N c : Nat) (s : Int32), c ≤ l → c ≤ (lys H T).length → (lys H T).length + 1 ≤ c + N → F_X7_wordsOf_L5 0 (nI H) (nI l) N s (nI c) k = some (orL (k.1 10) (((lys H T).take l).drop c) s, k) := by
  have hH2 : H < 2 ^ 31 := Nat.lt_of_lt_of_le hH (Nat.pow_le_pow_right (by decide) (by omega))
  have hle := lys_le H T
  intro N
  induction N with
  | zero => intro c s h1 h2 h3; omega
  | succ N ih =>
    intro c s h1 h2 h3
    rw [F_X7_wordsOf_L5]
    by_cases e1 : c = l
    · subst e1
      rw [if_pos (Int32.le_refl _), List.drop_eq_nil_of_le (by rw [List.length_take]; omega)]
      rfl
    · rw [if_neg (nI_ge (show c < l by omega) hl), size_x hH hT8]
      simp only [bnd_s]
      by_cases e2 : c = (lys H T).length
      · rw [if_pos (by rw [e2]; exact Int32.le_refl _), List.drop_eq_nil_of_le (by rw [List.length_take]; omega)]
        rfl
      · have hc : c < (lys H T).length := by omega
        rw [if_neg (nI_ge hc (by omega))]
        have ht : (lys H T)[c] < T := lys_lt (List.getElem_mem hc)
        have hM' := hM
        unfold RM at hM'
        have b10 := aIn_i sM.2.2.2.2.2.2.2.2.2.1 (show (lys H T)[c] < 8 by omega) (by decide)
        simp only [hM', ob_s, layerOf_x hT hT8 hH2 (show c < 2 ^ 31 by omega), bnd_s, atL_in hc, b10, ck_t, nm_x, cl_i (show (lys H T)[c] < 2 ^ 31 by omega), nI_1]
        rw [ih (c + 1) _ (by omega) (by omega) (by omega)]
        have hcl : c < ((lys H T).take l).length := by rw [List.length_take]; omega
        rw [List.drop_eq_getElem_cons hcl, orL, List.getElem_take]
theorem wordsOf_x {k : Hp} (hM : RM k) {T H l : Nat} (hT : k.1 0 7 = nI T) (hT8 : T ≤ 8) (hH : H < 2 ^ T) (hl : l < 2 ^ 31) : F_X7_wordsOf 0 (nI H) (nI l) k = some (orL (k.1 10) ((lys H T).take l) 0, k) := by
  unfold F_X7_wordsOf
  have h1 := wordsOf_L hM hT hT8 hH hl FU 0 0 (by omega) (by omega) (by have := lys_le H T; unfold FU; omega)
  rw [nI_0] at h1
  exact h1
/-! how deep a word is -/
def dpL (wd : Nat → Int32) (w : Int32) : List Nat → Nat → Int32
  | [], _ => -9
  | t :: L, c => if wd t = w then nI (c + 1) else dpL wd w L (c + 1)
theorem dpL_c {wd wd' : Nat → Int32} {w : Int32} : ∀ (L : List Nat) (c : Nat), (∀ t, t ∈ L → wd t = wd' t) → dpL wd w L c = dpL wd' w L c := by
  intro L
  induction L with
  | nil => intro c _; rfl
  | cons t L ih =>
    intro c h
    rw [dpL, dpL, h t List.mem_cons_self, ih _ (fun x hx => h x (List.mem_cons_of_mem _ hx))]
theorem depthOf_L {h : Hp} {d : Nat} (hD : DR h d) (hS : SD d) {H : Nat} (hH : H < 2 ^ 31) (w : Int32) : ∀ (N n c : Nat), n ≤ 8 → n + 1 ≤ N → F_X0_depthOf_L10 d (nI H) w N (nI c) (nI n - 1) h = some (dpL (h.1 (d + 7)) w (lys H n) c, h) := by
  unfold DR at hD
  unfold SD at hS
  intro N
  induction N with
  | zero => intro n c h1 h3; omega
  | succ N ih =>
    intro n c h1 h3
    rw [F_X0_depthOf_L10]
    cases n with
    | zero =>
      rw [pm_0, if_pos (by decide)]
      rfl
    | succ n =>
      rw [pm_s, if_neg (nI_pos (by omega)), lys]
      have a7 := aIn_i hS.2.2.2.2.2.2.2.1 (show n < 8 by omega) (by decide)
      simp only [bit_0 hH (show n < 32 by omega), nm_x, pm_d, hD, ob_s, a7, ck_t, cl_i (show n < 2 ^ 31 by omega), nI_1]
      cases hb : bitQ H n with
      | false =>
        simp only [if_true, Bool.false_eq_true, if_false]
        exact ih n c (by omega) (by omega)
      | true =>
        simp only [Bool.true_eq_false, if_false, if_true]
        rw [dpL]
        by_cases e : h.1 (d + 7) n = w
        · rw [if_pos e, if_pos e]
        · rw [if_neg e, if_neg e]
          exact ih n (c + 1) (by omega) (by omega)
theorem depthOf_x {h : Hp} {d : Nat} (hD : DR h d) (hS : SD d) {T H : Nat} (hT : h.1 d 2 = nI T) (hT8 : T ≤ 8) (hH : H < 2 ^ 31) (w : Int32) : F_X0_depthOf d (nI H) w h = some (dpL (h.1 (d + 7)) w (lys H T) 0, h) := by
  unfold F_X0_depthOf
  rw [hT, nm_x]
  have h1 := depthOf_L hD hS hH w FU T 0 hT8 (by unfold FU; omega)
  rw [nI_0] at h1
  exact h1
theorem deep_L {k : Hp} (hM : RM k) {T H : Nat} (hT : k.1 0 7 = nI T) (hT8 : T ≤ 8) (hH : H < 2 ^ T) (w : Int32) : ∀ (N c : Nat), c ≤ (lys H T).length → (lys H T).length + 1 ≤ c + N → F_X7_deep_L26 0 w (nI H) N (nI c) k = some (dpL (k.1 10) w ((lys H T).drop c) c, k) := by
  have hH2 : H < 2 ^ 31 := Nat.lt_of_lt_of_le hH (Nat.pow_le_pow_right (by decide) (by omega))
  have hle := lys_le H T
  intro N
  induction N with
  | zero => intro c h2 h3; omega
  | succ N ih =>
    intro c h2 h3
    rw [F_X7_deep_L26, size_x hH hT8]
    simp only [bnd_s]
    by_cases e2 : c = (lys H T).length
    · rw [if_pos (by rw [e2]; exact Int32.le_refl _), List.drop_eq_nil_of_le (by omega)]
      rfl
    · have hc : c < (lys H T).length := by omega
      rw [if_neg (nI_ge hc (by omega)), List.drop_eq_getElem_cons hc, dpL]
      have ht : (lys H T)[c] < T := lys_lt (List.getElem_mem hc)
      have hM' := hM
      unfold RM at hM'
      have b10 := aIn_i sM.2.2.2.2.2.2.2.2.2.1 (show (lys H T)[c] < 8 by omega) (by decide)
      simp only [hM', ob_s, layerOf_x hT hT8 hH2 (show c < 2 ^ 31 by omega), bnd_s, atL_in hc, b10, ck_t, nm_x, cl_i (show (lys H T)[c] < 2 ^ 31 by omega), nI_1]
      by_cases e : k.1 10 (lys H T)[c] = w
      · rw [if_pos e, if_pos e]
      · rw [if_neg e, if_neg e]
        exact ih (c + 1) (by omega) (by omega)
/-! what is heard is a set of talks -/
theorem hL_b {cat : Nat → Bool} {mi : Bool} : ∀ (n t S : Nat) (sp : Bool), t + n ≤ 8 → S < 2 ^ t → ∃ H, H < 2 ^ (t + n) ∧ hL cat mi n t (nI S) sp = nI H := by
  intro n
  induction n with
  | zero => intro t S sp _ hS; exact ⟨S, hS, rfl⟩
  | succ n ih =>
    intro t S sp h1 hS
    have hS2 : S < 2 ^ (t + 1) := Nat.lt_of_lt_of_le hS (Nat.pow_le_pow_right (by decide) (by omega))
    have hS3 : S ||| 2 ^ t < 2 ^ (t + 1) := Nat.or_lt_two_pow hS2 (Nat.pow_lt_pow_right (by decide) (by omega))
    rw [hL]
    have ih := fun S sp h => ih (t + 1) S sp (by omega) h
    rw [show t + 1 + n = t + (n + 1) by omega] at ih
    split
    · split
      · exact ih S _ hS2
      · rw [shl_nI t (by omega), or_nI]
        exact ih _ _ hS3
    · exact ih S _ hS2
theorem hsX_b {h : Hp} {d i T : Nat} (hT : T ≤ 8) (sv : Int32) : ∃ H, H < 2 ^ T ∧ hsX h d i T sv = nI H := by
  unfold hsX
  have := hL_b (cat := catX h d i sv) (mi := decide (h.1 (d + 1) i = 2)) T 0 0 true (by omega) (by decide)
  rw [Nat.zero_add] at this
  exact this
/-- cheese i's talks, as a number -/
theorem In0.hear {h k : Hp} {d w C K T M R : Nat} (I : In0 h k d w C K T M R) {i : Nat} (hi : i < K) : ∃ H, H < 2 ^ T ∧ H < 2 ^ 31 ∧ hsX h d i T (-9) = nI H ∧ F_X0_talksTo d (nI i) (-9) h = some (nI H, h) ∧ F_X7_heardBy 0 (nI i) k = some (nI H, k) := by
  obtain ⟨H, h1, h2⟩ := hsX_b (h := h) (d := d) (i := i) I.T.2.2 (-9)
  exact ⟨H, h1, Nat.lt_of_lt_of_le h1 (Nat.pow_le_pow_right (by decide) (by have := I.T.2.2; omega)), h2, by rw [I.talks hi, h2], by rw [I.heard hi, h2]⟩
theorem In0.wd {h k : Hp} {d w C K T M R : Nat} (I : In0 h k d w C K T M R) {H : Nat} : ∀ t, t ∈ lys H T → k.1 10 t = h.1 (d + 7) t := fun t ht => (I.talk (lys_lt ht)).2.2.2.2.2
theorem st_layer : ∀ a b : Int32, SP Inv (fun h => F_X6_layer 0 a b h) (fun k => F_X7_layer 0 a b k) := by
  rintro a b h k ⟨d, w, C, K, T, M, R, I⟩
  have hS := SD_of I.1
  have hR := I.2.2.1
  have hD := hR.dr I.1
  have hM := I.2.2.2.1
  unfold RC at hR
  unfold SD at hS
  unfold DR at hD
  unfold RM at hM
  dsimp only
  unfold F_X6_layer F_X7_layer
  rcases cheese_q I a with ⟨e1, e2⟩ | ⟨i, hi, rfl, e1, e2⟩
  · rw [e1, e2]
    exact ⟨-1, h, k, rfl, rfl, d, w, C, K, T, M, R, I⟩
  rw [e1, e2]
  obtain ⟨H, h1, h2, h3, h4, h5⟩ := I.hear hi
  simp only [bnd_s, if_neg (show ¬ (1 : Int32) = 0 by decide), hR, gO_s, hS, ck_t, h4, h5]
  by_cases c1 : b < 0
  · rw [if_neg (Int32.not_le.mpr c1), if_pos c1]
    exact ⟨-1, h, k, rfl, rfl, d, w, C, K, T, M, R, I⟩
  · obtain ⟨l, hl, rfl⟩ := nI_of c1
    rw [if_pos (Int32.not_lt.mp c1), if_neg c1, talkAt_x I.T.1 I.T.2.2 h2 hl, layerOf_x I.T.2.1 I.T.2.2 h2 hl]
    exact ⟨_, h, k, rfl, rfl, d, w, C, K, T, M, R, I⟩
theorem st_deep : ∀ a b : Int32, SP Inv (fun h => F_X6_deep 0 a b h) (fun k => F_X7_deep 0 a b k) := by
  rintro a b h k ⟨d, w, C, K, T, M, R, I⟩
  have hS0 := SD_of I.1
  have hD0 := I.2.2.1.dr I.1
  have hS := SD_of I.1
  have hR := I.2.2.1
  have hD := hR.dr I.1
  have hM := I.2.2.2.1
  unfold RC at hR
  unfold SD at hS
  unfold DR at hD
  unfold RM at hM
  dsimp only
  unfold F_X6_deep F_X7_deep
  rcases cheese_q I a with ⟨e1, e2⟩ | ⟨i, hi, rfl, e1, e2⟩
  · rw [e1, e2]
    exact ⟨-1, h, k, rfl, rfl, d, w, C, K, T, M, R, I⟩
  rw [e1, e2]
  obtain ⟨H, h1, h2, h3, h4, h5⟩ := I.hear hi
  simp only [bnd_s, if_neg (show ¬ (1 : Int32) = 0 by decide)]
  rcases word_q b h k with ⟨g1, g2⟩ | ⟨x, hx, rfl, g1, g2⟩
  · rw [g1, g2]
    exact ⟨-1, h, k, rfl, rfl, d, w, C, K, T, M, R, I⟩
  rw [g1, g2]
  have h9 := deep_L I.2.2.2.1 I.T.2.1 I.T.2.2 h1 (nI x) FU 0 (by omega) (by have := lys_le H T; have := I.T.2.2; unfold FU; omega)
  rw [nI_0, List.drop_zero, dpL_c _ _ I.wd] at h9
  simp only [bnd_s, if_neg (show ¬ (1 : Int32) = 0 by decide), hR, gO_s, hS, ck_t, h4, h5, depthOf_x hD0 hS0 I.T.1 I.T.2.2 h2]
  rw [h9]
  exact ⟨_, h, k, rfl, rfl, d, w, C, K, T, M, R, I⟩
