/-! texts of a dairy -/
def FrC (b g : Hp) (e : Nat) : Prop := g.2 = b.2 ∧ ∀ q, ¬ (e ≤ q ∧ q < e + 22) → g.1 q = b.1 q
def FrM (k m : Hp) : Prop := m.2 = k.2 ∧ (∀ q, q ≠ 0 → q ≠ 14 → q ≠ 15 → m.1 q = k.1 q) ∧ ∀ j, ¬ (20 ≤ j ∧ j < 24) → m.1 0 j = k.1 0 j
theorem FrC.p {b g : Hp} {e q j : Nat} {v : Int32} (F : FrC b g e) (hq : e ≤ q ∧ q < e + 22) : FrC b (pI g q j v) e := by
  refine ⟨F.1, fun r hr => ?_⟩
  rw [← F.2 r hr]
  funext y
  rw [pI_1, if_neg (fun z => hr (by rw [z.1]; exact hq))]
theorem FrM.p0 {k m : Hp} {j : Nat} {v : Int32} (F : FrM k m) (hj : 20 ≤ j ∧ j < 24) : FrM k (pI m 0 j v) := by
  refine ⟨F.1, fun q q1 q2 q3 => ?_, fun y hy => ?_⟩
  · rw [← F.2.1 q q1 q2 q3]
    funext y
    rw [pI_1, if_neg (fun z => q1 z.1)]
  · rw [pI_1, if_neg (fun z => hy (by rw [z.2]; exact hj)), F.2.2 y hy]
theorem FrM.pr {k m : Hp} {q j : Nat} {v : Int32} (F : FrM k m) (hq : q = 14 ∨ q = 15) : FrM k (pI m q j v) := by
  refine ⟨F.1, fun r q1 q2 q3 => ?_, fun y hy => ?_⟩
  · rw [← F.2.1 r q1 q2 q3]
    funext y
    rw [pI_1, if_neg (by omega)]
  · rw [pI_1, if_neg (by omega), F.2.2 y hy]
def dgV (z lo hi : Int32) : Int32 := if z < 48 + lo then 0 else if 48 + hi < z then 0 else 1
theorem dgV_01 (z lo hi : Int32) : dgV z lo hi = 0 ∨ dgV z lo hi = 1 := by
  unfold dgV
  split
  · exact Or.inl rfl
  · split
    · exact Or.inl rfl
    · exact Or.inr rfl
theorem isB01 {r : Int32} (h : r = 0 ∨ r = 1) : isB r = true := by
  rcases h with rfl | rfl <;> decide
theorem isDigit_x (z lo hi : Int32) (h : Hp) : F_X0_isDigit z lo hi h = some (dgV z lo hi, h) := by
  unfold F_X0_isDigit dgV
  split
  · rfl
  · split <;> rfl
theorem dg_in {z : Int32} {lo hi : Nat} (hh : hi < 100) (hl : lo < 100) (h : ¬ dgV z (nI lo) (nI hi) = 0) : ∃ v, lo ≤ v ∧ v ≤ hi ∧ z - 48 = nI v := by
  unfold dgV at h
  by_cases c1 : z < 48 + nI lo
  · rw [if_pos c1] at h
    exact absurd rfl h
  · rw [if_neg c1] at h
    by_cases c2 : 48 + nI hi < z
    · rw [if_pos c2] at h
      exact absurd rfl h
    · have e1 : (48 : Int32) + nI lo = nI (48 + lo) := by rw [show (48 : Int32) = nI 48 from rfl, nI_add]
      have e2 : (48 : Int32) + nI hi = nI (48 + hi) := by rw [show (48 : Int32) = nI 48 from rfl, nI_add]
      rw [e1] at c1
      rw [e2] at c2
      have c0 : ¬ z < 0 := fun q => c1 (Int32.lt_of_lt_of_le q (nI_pos' (by omega)))
      obtain ⟨x, hx, rfl⟩ := nI_of2 (M := nI (48 + hi)) (n := 48 + hi) (nI_toInt (by omega)) c0 (Int32.not_lt.mp c2)
      have c3 : ¬ x < 48 + lo := fun q => c1 (nI_lt q (by omega))
      exact ⟨x - 48, by omega, by omega, by rw [show (48 : Int32) = nI 48 from rfl, pk_sub (by omega)]⟩
def kindV (z : Int32) : Int32 := if z = 99 then 0 else if z = 109 then 2 else if z = 119 then 1 else -9
theorem kind_in {z : Int32} (h : ¬ kindV z = -9) : ∃ x, x < 3 ∧ kindV z = nI x := by
  unfold kindV at h ⊢
  split
  · exact ⟨0, by decide, rfl⟩
  · split
    · exact ⟨2, by decide, rfl⟩
    · split
      · exact ⟨1, by decide, rfl⟩
      · next a b c => exact absurd (by rw [if_neg a, if_neg b, if_neg c]) h
theorem kindOf_x (z : Int32) (h : Hp) : F_X0_kindOf z h = some (kindV z, h) := by
  unfold F_X0_kindOf kindV
  split
  · rfl
  · split
    · rfl
    · split <;> rfl
/-- what of the draft and of what the reference reads is kept from step to step -/
def DS (h k g m : Hp) (e C Ks Ts Km Tm a : Nat) : Prop := FrC h g e ∧ FrM k m ∧ (g.1 e 0 = nI C ∧ g.1 e 1 = nI Ks ∧ g.1 e 2 = nI Ts ∧ g.1 (e + 8) 3 = 0 ∧ g.1 (e + 12) 3 = 0) ∧ (m.1 0 21 = nI C ∧ m.1 0 22 = nI Km ∧ m.1 0 23 = nI Tm ∧ m.1 0 20 = nI a)
theorem DS.g {h k g m : Hp} {e C Ks Ts Km Tm a r i : Nat} {v : Int32} (D : DS h k g m e C Ks Ts Km Tm a) (hr : 0 < r ∧ r < 8) : DS h k (pI g (e + r) i v) m e C Ks Ts Km Tm a := by
  obtain ⟨d1, d2, ⟨c1, c2, c3, c4, c5⟩, d4⟩ := D
  have o : ∀ q j, q ≠ e + r → (pI g (e + r) i v).1 q j = g.1 q j := fun q j hq => by rw [pI_1, if_neg (fun z => hq z.1)]
  refine ⟨d1.p (by omega), d2, ⟨?_, ?_, ?_, ?_, ?_⟩, d4⟩
  · rw [o _ _ (by omega)]; exact c1
  · rw [o _ _ (by omega)]; exact c2
  · rw [o _ _ (by omega)]; exact c3
  · rw [o _ _ (by omega)]; exact c4
  · rw [o _ _ (by omega)]; exact c5
theorem DS.m {h k g m : Hp} {e C Ks Ts Km Tm a q i : Nat} {v : Int32} (D : DS h k g m e C Ks Ts Km Tm a) (hq : q = 14 ∨ q = 15) : DS h k g (pI m q i v) e C Ks Ts Km Tm a := by
  obtain ⟨d1, d2, d3, c1, c2, c3, c4⟩ := D
  have o : ∀ j, (pI m q i v).1 0 j = m.1 0 j := fun j => by rw [pI_1, if_neg (by omega)]
  exact ⟨d1, d2.pr hq, d3, by rw [o]; exact c1, by rw [o]; exact c2, by rw [o]; exact c3, by rw [o]; exact c4⟩
theorem DS.at_ {h k g m : Hp} {e C Ks Ts Km Tm a : Nat} (a' : Nat) (D : DS h k g m e C Ks Ts Km Tm a) : DS h k g (pI m 0 20 (nI a')) e C Ks Ts Km Tm a' := by
  obtain ⟨d1, d2, d3, c1, c2, c3, c4⟩ := D
  exact ⟨d1, d2.p0 (by decide), d3, by rw [pI_1, if_neg (by decide)]; exact c1, by rw [pI_1, if_neg (by decide)]; exact c2, by rw [pI_1, if_neg (by decide)]; exact c3, by rw [pI_1, if_pos (by decide)]⟩
theorem DS.km {h k g m : Hp} {e C Ks Ts Km Tm a : Nat} (x : Nat) (D : DS h k g m e C Ks Ts Km Tm a) : DS h k g (pI m 0 22 (nI x)) e C Ks Ts x Tm a := by
  obtain ⟨d1, d2, d3, c1, c2, c3, c4⟩ := D
  exact ⟨d1, d2.p0 (by decide), d3, by rw [pI_1, if_neg (by decide)]; exact c1, by rw [pI_1, if_pos (by decide)], by rw [pI_1, if_neg (by decide)]; exact c3, by rw [pI_1, if_neg (by decide)]; exact c4⟩
theorem DS.tm {h k g m : Hp} {e C Ks Ts Km Tm a : Nat} (x : Nat) (D : DS h k g m e C Ks Ts Km Tm a) : DS h k g (pI m 0 23 (nI x)) e C Ks Ts Km x a := by
  obtain ⟨d1, d2, d3, c1, c2, c3, c4⟩ := D
  exact ⟨d1, d2.p0 (by decide), d3, by rw [pI_1, if_neg (by decide)]; exact c1, by rw [pI_1, if_neg (by decide)]; exact c2, by rw [pI_1, if_pos (by decide)], by rw [pI_1, if_neg (by decide)]; exact c4⟩
theorem DS.gk {h k g m : Hp} {e C Ks Ts Km Tm a : Nat} (x : Nat) (D : DS h k g m e C Ks Ts Km Tm a) : DS h k (pI g e 1 (nI x)) m e C x Ts Km Tm a := by
  obtain ⟨d1, d2, ⟨c1, c2, c3, c4, c5⟩, d4⟩ := D
  refine ⟨d1.p (by omega), d2, ⟨?_, ?_, ?_, ?_, ?_⟩, d4⟩
  · rw [pI_1, if_neg (fun z => absurd z.2 (by decide))]; exact c1
  · rw [pI_1, if_pos ⟨rfl, rfl⟩]
  · rw [pI_1, if_neg (fun z => absurd z.2 (by decide))]; exact c3
  · rw [pI_1, if_neg (fun z => absurd z.2 (by decide))]; exact c4
  · rw [pI_1, if_neg (fun z => absurd z.2 (by decide))]; exact c5
theorem DS.gt {h k g m : Hp} {e C Ks Ts Km Tm a : Nat} (x : Nat) (D : DS h k g m e C Ks Ts Km Tm a) : DS h k (pI g e 2 (nI x)) m e C Ks x Km Tm a := by
  obtain ⟨d1, d2, ⟨c1, c2, c3, c4, c5⟩, d4⟩ := D
  refine ⟨d1.p (by omega), d2, ⟨?_, ?_, ?_, ?_, ?_⟩, d4⟩
  · rw [pI_1, if_neg (fun z => absurd z.2 (by decide))]; exact c1
  · rw [pI_1, if_neg (fun z => absurd z.2 (by decide))]; exact c2
  · rw [pI_1, if_pos ⟨rfl, rfl⟩]
  · rw [pI_1, if_neg (fun z => absurd z.2 (by decide))]; exact c4
  · rw [pI_1, if_neg (fun z => absurd z.2 (by decide))]; exact c5
def JC (g m : Hp) (e C K : Nat) : Prop := ∀ i, i < K → (∃ x, x < 3 ∧ g.1 (e + 1) i = nI x) ∧ (∃ x, x < C ∧ g.1 (e + 2) i = nI x) ∧ (∃ x, x < 10 ∧ g.1 (e + 3) i = nI x) ∧ m.1 14 (3 * i) = g.1 (e + 1) i ∧ m.1 14 (3 * i + 1) = g.1 (e + 2) i ∧ m.1 14 (3 * i + 2) = g.1 (e + 3) i
def JT (g m : Hp) (e C T : Nat) : Prop := ∀ i, i < T → (∃ x, x < C ∧ g.1 (e + 5) i = nI x) ∧ (∃ x, 0 < x ∧ x < 10 ∧ g.1 (e + 6) i = nI x) ∧ (∃ x, x < 8 ∧ g.1 (e + 7) i = nI x) ∧ m.1 15 (3 * i) = g.1 (e + 5) i ∧ m.1 15 (3 * i + 1) = g.1 (e + 6) i ∧ m.1 15 (3 * i + 2) = g.1 (e + 7) i
theorem JC.c {g m g' m' : Hp} {e C K : Nat} (J : JC g m e C K) (h1 : ∀ r, 1 ≤ r → r ≤ 3 → ∀ i, i < K → g'.1 (e + r) i = g.1 (e + r) i) (h2 : ∀ j, j < 3 * K → m'.1 14 j = m.1 14 j) : JC g' m' e C K := by
  intro i hi
  rw [h1 1 (by decide) (by decide) i hi, h1 2 (by decide) (by decide) i hi, h1 3 (by decide) (by decide) i hi, h2 _ (by omega), h2 _ (by omega), h2 _ (by omega)]
  exact J i hi
theorem JT.c {g m g' m' : Hp} {e C T : Nat} (J : JT g m e C T) (h1 : ∀ r, 5 ≤ r → r ≤ 7 → ∀ i, i < T → g'.1 (e + r) i = g.1 (e + r) i) (h2 : ∀ j, j < 3 * T → m'.1 15 j = m.1 15 j) : JT g' m' e C T := by
  intro i hi
  rw [h1 5 (by decide) (by decide) i hi, h1 6 (by decide) (by decide) i hi, h1 7 (by decide) (by decide) i hi, h2 _ (by omega), h2 _ (by omega), h2 _ (by omega)]
  exact J i hi
/-! steps of the class -/
theorem go_part {e : Nat} {j : Nat} (hj : 2 ≤ j) (hj2 : j < 1000) (z : Int32) (g : Hp) : F_X0_goesOn e (nI j) z g = if (j - 2) % 4 = 0 then (bnd (F_X0_begins e z g) fun r8 h7 => ck (isB r8) (some (r8, h7))) else (if (g.1 e 2) = (0 : Int32) then (bnd (F_X0_cheeseGoesOn e (nI ((j - 2) % 4)) z g) fun r5 h4 => ck (isB r5) (some (r5, h4))) else (bnd (F_X0_talkGoesOn e (nI ((j - 2) % 4)) z g) fun r3 h2 => ck (isB r3) (some (r3, h2)))) := by
  unfold F_X0_goesOn
  have n0 : ¬ nI j = 0 := nI_ne0 (by omega) (by omega)
  have n1 : ¬ nI j = 1 := fun q => by
    have := (nI_eq (a := j) (b := 1) (by omega) (by decide)).mp q
    omega
  have hr : nI j - 2 - (nI j - 2) / 4 * 4 = nI ((j - 2) % 4) := by
    rw [show (2 : Int32) = nI 2 from rfl, pk_sub hj, show (4 : Int32) = nI 4 from rfl, pk_rem (by omega) (by decide) (by decide)]
  rw [if_neg n0, if_neg n1, nm_x, hr]
  by_cases c : (j - 2) % 4 = 0
  · rw [if_pos c, c, if_pos (show nI 0 = 0 from rfl)]
  · rw [if_neg c, if_neg (nI_ne0 (by omega) (by omega))]
theorem cg_1 {g : Hp} {e K j : Nat} (hD : DR g e) (hS : SD e) (hK : K < 4) (g1 : g.1 e 1 = nI (K + 1)) (g2 : g.1 e 2 = nI 0) (hj : j = 2 + 4 * K + 1) (z : Int32) : F_X0_goesOn e (nI j) z g = some (if kindV z = -9 then 0 else 1, pI g (e + 1) K (kindV z)) := by
  rw [go_part (by omega) (by omega), show (j - 2) % 4 = 1 by omega, if_neg (by decide), g2, if_pos (show nI 0 = 0 from rfl)]
  unfold DR at hD
  unfold SD at hS
  have a1 := aIn_i (show shC[e + 1]? = some (1, 4) by simp only [hS]) hK (by decide)
  have q2 : ∀ v, (pI g (e + 1) K v).2 = g.2 := fun v => rfl
  have v1 : (pI g (e + 1) K (kindV z)).1 (e + 1) K = kindV z := by rw [pI_1, if_pos ⟨rfl, rfl⟩]
  unfold F_X0_cheeseGoesOn
  simp only [g1, pm_s, nm_x, if_pos (show nI 1 = 1 from rfl), hD, ob_s, kindOf_x, bnd_s, a1, ck_t, cl_i (show K < 2 ^ 31 by omega), q2, v1]
  split <;> rfl
theorem cg_2 {g : Hp} {e C K j : Nat} (hD : DR g e) (hS : SD e) (hK : K < 4) (g0 : g.1 e 0 = nI C) (g1 : g.1 e 1 = nI (K + 1)) (g2 : g.1 e 2 = nI 0) (hj : j = 2 + 4 * K + 2) (z : Int32) : F_X0_goesOn e (nI j) z g = some (dgV z 0 (nI C - 1), pI g (e + 2) K (z - 48)) := by
  rw [go_part (by omega) (by omega), show (j - 2) % 4 = 2 by omega, if_neg (by decide), g2, if_pos (show nI 0 = 0 from rfl)]
  unfold DR at hD
  unfold SD at hS
  have a1 := aIn_i (show shC[e + 2]? = some (1, 4) by simp only [hS]) hK (by decide)
  have v0 : ∀ v, (pI g (e + 2) K v).1 e 0 = nI C := fun v => by rw [pI_1, if_neg (fun z => absurd z.1 (by omega))]; exact g0
  unfold F_X0_cheeseGoesOn
  simp only [g1, pm_s, nm_x, if_neg (show ¬ nI 2 = 1 by decide), if_pos (show nI 2 = 2 from rfl), hD, ob_s, isDigit_x, bnd_s, a1, ck_t, cl_i (show K < 2 ^ 31 by omega), v0, isB01 (dgV_01 _ _ _)]
theorem cg_3 {g : Hp} {e K j : Nat} (hD : DR g e) (hS : SD e) (hK : K < 4) (g1 : g.1 e 1 = nI (K + 1)) (g2 : g.1 e 2 = nI 0) (hj : j = 2 + 4 * K + 3) (z : Int32) : F_X0_goesOn e (nI j) z g = some (dgV z 0 9, pI g (e + 3) K (z - 48)) := by
  rw [go_part (by omega) (by omega), show (j - 2) % 4 = 3 by omega, if_neg (by decide), g2, if_pos (show nI 0 = 0 from rfl)]
  unfold DR at hD
  unfold SD at hS
  have a1 := aIn_i (show shC[e + 3]? = some (1, 4) by simp only [hS]) hK (by decide)
  unfold F_X0_cheeseGoesOn
  simp only [g1, pm_s, nm_x, if_neg (show ¬ nI 3 = 1 by decide), if_neg (show ¬ nI 3 = 2 by decide), hD, ob_s, isDigit_x, bnd_s, a1, ck_t, cl_i (show K < 2 ^ 31 by omega), isB01 (dgV_01 _ _ _)]
theorem tg_1 {g : Hp} {e C K T j : Nat} (hD : DR g e) (hS : SD e) (hK : K ≤ 4) (hT : T < 8) (g0 : g.1 e 0 = nI C) (g2 : g.1 e 2 = nI (T + 1)) (hj : j = 2 + 4 * (K + T) + 1) (z : Int32) : F_X0_goesOn e (nI j) z g = some (dgV z 0 (nI C - 1), pI g (e + 5) T (z - 48)) := by
  rw [go_part (by omega) (by omega), show (j - 2) % 4 = 1 by omega, if_neg (by decide), g2, if_neg (nI_ne0 (by omega) (by omega))]
  unfold DR at hD
  unfold SD at hS
  have a1 := aIn_i (show shC[e + 5]? = some (1, 8) by simp only [hS]) hT (by decide)
  have v0 : ∀ v, (pI g (e + 5) T v).1 e 0 = nI C := fun v => by rw [pI_1, if_neg (fun z => absurd z.1 (by omega))]; exact g0
  unfold F_X0_talkGoesOn
  simp only [g2, pm_s, nm_x, if_pos (show nI 1 = 1 from rfl), hD, ob_s, isDigit_x, bnd_s, a1, ck_t, cl_i (show T < 2 ^ 31 by omega), v0, isB01 (dgV_01 _ _ _)]
theorem tg_2 {g : Hp} {e K T j : Nat} (hD : DR g e) (hS : SD e) (hK : K ≤ 4) (hT : T < 8) (g2 : g.1 e 2 = nI (T + 1)) (hj : j = 2 + 4 * (K + T) + 2) (z : Int32) : F_X0_goesOn e (nI j) z g = some (dgV z 1 9, pI g (e + 6) T (z - 48)) := by
  rw [go_part (by omega) (by omega), show (j - 2) % 4 = 2 by omega, if_neg (by decide), g2, if_neg (nI_ne0 (by omega) (by omega))]
  unfold DR at hD
  unfold SD at hS
  have a1 := aIn_i (show shC[e + 6]? = some (1, 8) by simp only [hS]) hT (by decide)
  unfold F_X0_talkGoesOn
  simp only [g2, pm_s, nm_x, if_neg (show ¬ nI 2 = 1 by decide), if_pos (show nI 2 = 2 from rfl), hD, ob_s, isDigit_x, bnd_s, a1, ck_t, cl_i (show T < 2 ^ 31 by omega), isB01 (dgV_01 _ _ _)]
theorem tg_3 {g : Hp} {e K T j : Nat} (hD : DR g e) (hS : SD e) (hK : K ≤ 4) (hT : T < 8) (g2 : g.1 e 2 = nI (T + 1)) (hj : j = 2 + 4 * (K + T) + 3) (z : Int32) : F_X0_goesOn e (nI j) z g = some (dgV z 0 7, pI g (e + 7) T (z - 48)) := by
  rw [go_part (by omega) (by omega), show (j - 2) % 4 = 3 by omega, if_neg (by decide), g2, if_neg (nI_ne0 (by omega) (by omega))]
  unfold DR at hD
  unfold SD at hS
  have a1 := aIn_i (show shC[e + 7]? = some (1, 8) by simp only [hS]) hT (by decide)
  unfold F_X0_talkGoesOn
  simp only [g2, pm_s, nm_x, if_neg (show ¬ nI 3 = 1 by decide), if_neg (show ¬ nI 3 = 2 by decide), hD, ob_s, isDigit_x, bnd_s, a1, ck_t, cl_i (show T < 2 ^ 31 by omega), isB01 (dgV_01 _ _ _)]
theorem go_b {g : Hp} {e K T j : Nat} (hK : K ≤ 4) (hT : T ≤ 8) (g1 : g.1 e 1 = nI K) (g2 : g.1 e 2 = nI T) (hj : j = 2 + 4 * (K + T)) (z : Int32) : F_X0_goesOn e (nI j) z g = if z = 44 ∧ T = 0 ∧ K < 4 then some (1, pI g e 1 (nI (K + 1))) else if z = 59 ∧ 0 < K ∧ T < 8 then some (1, pI g e 2 (nI (T + 1))) else some (0, g) := by
  rw [go_part (by omega) (by omega), show (j - 2) % 4 = 0 by omega, if_pos rfl]
  have hJ : F_X0_begins_J33 e z g = if z = 59 ∧ 0 < K ∧ T < 8 then some (1, pI g e 2 (nI (T + 1))) else some (0, g) := by
    unfold F_X0_begins_J33
    rw [g1, g2]
    by_cases c1 : z = 59
    · rw [if_pos c1]
      by_cases c2 : K = 0
      · rw [c2, if_pos (by decide), if_neg (by omega)]
      · rw [if_neg (nI_nle (by omega) (by omega))]
        by_cases c3 : T < 8
        · rw [if_neg (show ¬ (8 : Int32) ≤ nI T from nI_ge (b := 8) c3 (by decide)), nm_x, nI_1, if_pos ⟨c1, by omega, c3⟩]
        · have : T = 8 := by omega
          subst this
          rw [if_pos (by decide), if_neg (by omega)]
    · rw [if_neg c1, if_neg (fun q => c1 q.1)]
  have i0 : isB 0 = true := by decide
  have i1 : isB 1 = true := by decide
  unfold F_X0_begins
  rw [hJ, g1, g2]
  have fin_ : ∀ o : Option (Int32 × Hp), (o = some (1, pI g e 2 (nI (T + 1))) ∨ o = some (0, g) ∨ o = some (1, pI g e 1 (nI (K + 1)))) → (bnd o fun r8 h7 => ck (isB r8) (some (r8, h7))) = o := by
    rintro o (rfl | rfl | rfl)
    · rw [bnd_s, i1, ck_t]
    · rw [bnd_s, i0, ck_t]
    · rw [bnd_s, i1, ck_t]
  have hJ2 : (if z = 59 ∧ 0 < K ∧ T < 8 then some ((1 : Int32), pI g e 2 (nI (T + 1))) else some (0, g)) = some (1, pI g e 2 (nI (T + 1))) ∨ (if z = 59 ∧ 0 < K ∧ T < 8 then some ((1 : Int32), pI g e 2 (nI (T + 1))) else some (0, g)) = some (0, g) := by
    split
    · exact Or.inl rfl
    · exact Or.inr rfl
  by_cases c1 : z = 44
  · rw [if_pos c1]
    by_cases c2 : T = 0
    · rw [if_pos (by rw [c2]; rfl)]
      by_cases c3 : K < 4
      · rw [if_neg (show ¬ (4 : Int32) ≤ nI K from nI_ge (b := 4) c3 (by decide)), nm_x, nI_1, if_pos ⟨c1, c2, c3⟩]
        exact fin_ _ (Or.inr (Or.inr rfl))
      · have : K = 4 := by omega
        subst this
        rw [if_pos (by decide), if_neg (show ¬ (z = 44 ∧ T = 0 ∧ 4 < 4) by omega)]
        exact fin_ _ (hJ2.elim Or.inl (fun q => Or.inr (Or.inl q)))
    · rw [if_neg (nI_ne0 (by omega) (by omega)), if_neg (show ¬ (z = 44 ∧ T = 0 ∧ K < 4) from fun q => c2 q.2.1)]
      exact fin_ _ (hJ2.elim Or.inl (fun q => Or.inr (Or.inl q)))
  · rw [if_neg c1, if_neg (show ¬ (z = 44 ∧ T = 0 ∧ K < 4) from fun q => c1 q.1)]
    exact fin_ _ (hJ2.elim Or.inl (fun q => Or.inr (Or.inl q)))
/-! steps of the reference -/
theorem sign_x {m : Hp} (hM : RM m) {a E : Nat} (ha : m.1 0 20 = nI a) (hE : E ≤ 240) (haE : a ≤ E) (s : Int32) : F_X7_isSign 0 (nI E) s m = if a < E ∧ m.1 3 a = s then some (1, pI m 0 20 (nI (a + 1))) else some (0, m) := by
  unfold RM at hM
  unfold F_X7_isSign
  rw [ha]
  by_cases c : a < E
  · have a3 := aIn_i (sh := shM) (q := 3) (n := 240) (by decide +kernel) (show a < 240 by omega) (by decide)
    rw [if_neg (nI_ge c (by omega))]
    simp only [hM, ob_s, a3, ck_t, cl_i (show a < 2 ^ 31 by omega), nm_x, nI_1]
    by_cases c2 : m.1 3 a = s
    · rw [if_pos c2, if_pos ⟨c, c2⟩]
    · rw [if_neg c2, if_neg (fun q => c2 q.2)]
  · rw [if_pos (nI_le (by omega) (by omega)), if_neg (fun q => c q.1)]
theorem digit_x {m : Hp} (hM : RM m) {a E : Nat} (ha : m.1 0 20 = nI a) (hE : E ≤ 240) (haE : a ≤ E) (lo hi : Int32) : F_X7_digit 0 (nI E) lo hi m = if a < E ∧ ¬ dgV (m.1 3 a) lo hi = 0 then some (m.1 3 a - 48, pI m 0 20 (nI (a + 1))) else some (-9, m) := by
  unfold RM at hM
  unfold F_X7_digit
  rw [ha]
  by_cases c : a < E
  · have a3 := aIn_i (sh := shM) (q := 3) (n := 240) (by decide +kernel) (show a < 240 by omega) (by decide)
    have q2 : (pI m 0 20 (nI (a + 1))).2 = m.2 := rfl
    have v20 : (pI m 0 20 (nI (a + 1))).1 0 20 = nI (a + 1) := by rw [pI_1, if_pos (by decide)]
    have v3 : (pI m 0 20 (nI (a + 1))).1 3 a = m.1 3 a := by rw [pI_1, if_neg (fun z => absurd z.1 (by decide))]
    have hw : ∀ z, F_X7_within z (48 + lo) (48 + hi) m = some (dgV z lo hi, m) := fun z => mWithin z _ _
    rw [if_neg (nI_ge c (by omega))]
    simp only [hM, ob_s, a3, ck_t, cl_i (show a < 2 ^ 31 by omega), hw, bnd_s, nm_x, ha, nI_1, q2, v20, pm_s, v3]
    by_cases c2 : dgV (m.1 3 a) lo hi = 0
    · rw [if_pos c2, if_neg (fun q => q.2 c2)]
    · rw [if_neg c2, if_pos ⟨c, c2⟩]
  · rw [if_pos (nI_le (by omega) (by omega)), if_neg (fun q => c q.1)]
