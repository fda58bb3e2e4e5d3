theorem RC_dr {h g : Hp} {e : Nat} (e1 : g.2 = h.2) (hD : DR h e) : DR g e := by
  unfold DR at hD ⊢
  rw [e1]
  exact hD
def Tx (h k : Hp) (e Q p b n : Nat) : Prop := DR h e ∧ SD e ∧ RM k ∧ ¬ (e ≤ Q ∧ Q < e + 22) ∧ shC[Q]? = some (1, 60) ∧ p + n ≤ 60 ∧ b + n ≤ 240 ∧ ∀ j, j < n → k.1 3 (b + j) = h.1 Q (p + j)
def kT (o : Nat) (p2 : Int32) (h19 : Hp) : Option (Int32 × Hp) := if (h19.1 o 2) = (0 : Int32) then (some (p2, h19)) else (if ((p2 - (2 : Int32)) - (p2 - (2 : Int32)) / (4 : Int32) * (4 : Int32)) = (0 : Int32) then ((h19.2 o 6).bind fun q20 => bnd (F_J7_fill_53178 q20 (-9 : Int32) h19) fun _ h21 => bnd (F_X0_carry o h21) fun _ h22 => some ((-9 : Int32), h22)) else (some (p2, h19)))
theorem kT_0 {e : Nat} {v : Int32} {g : Hp} (h : g.1 e 2 = nI 0) : kT e v g = some (v, g) := by
  unfold kT
  rw [if_pos (show g.1 e 2 = 0 from h)]
theorem rem4 {n : Nat} (h2 : 2 ≤ n) (h6 : n ≤ 60) : nI n - 2 - (nI n - 2) / 4 * 4 = nI ((n - 2) % 4) := by
  rw [show (2 : Int32) = nI 2 from rfl, pk_sub h2, show (4 : Int32) = nI 4 from rfl, pk_rem (by omega) (by decide) (by decide)]
theorem kT_n {e n : Nat} {g : Hp} (h2 : 2 ≤ n) (h6 : n ≤ 60) (h4 : (n - 2) % 4 ≠ 0) : kT e (nI n) g = some (nI n, g) := by
  unfold kT
  rw [rem4 h2 h6, if_neg (nI_ne0 (n := (n - 2) % 4) (by omega) (by omega))]
  split <;> rfl
def CL (e Q p n j : Nat) (g : Hp) : Option (Int32 × Hp) := F_X0_takeText_L34 (kT e (nI n)) e Q (nI p) (nI n) (100000 - j) (nI j) g
theorem CL_end {e Q p n : Nat} {g : Hp} (hn : n ≤ 60) : CL e Q p n n g = kT e (nI n) g := by
  unfold CL
  rw [show 100000 - n = (100000 - (n + 1)) + 1 by omega, F_X0_takeText_L34, if_pos (Int32.le_refl _)]
theorem CL_go {h k g g' : Hp} {e Q p b n j : Nat} {r : Int32} (X : Tx h k e Q p b n) (hj : j < n) (hg : F_X0_goesOn e (nI j) (g.1 Q (p + j)) g = some (r, g')) : CL e Q p n j g = if r = 0 then some (nI j, g') else CL e Q p n (j + 1) g' := by
  obtain ⟨-, -, -, -, x5, x6, -, -⟩ := X
  unfold CL
  have aQ := aIn_i x5 (show p + j < 60 by omega) (by decide)
  rw [show 100000 - j = (100000 - (j + 1)) + 1 by omega, F_X0_takeText_L34, if_neg (nI_ge hj (by omega)), nI_add, aQ, ck_t, cl_i (show p + j < 2 ^ 31 by omega), hg, bnd_s, nm_x, nI_1]
def BF (h k : Hp) (e b : Nat) (c m : Option (Int32 × Hp)) : Prop := ∃ pl g' m', c = some (nI pl, g') ∧ m = some (0, m') ∧ m'.1 0 20 = nI (b + pl) ∧ FrC h g' e ∧ FrM k m' ∧ pl ≤ 60
theorem n2 (a : Nat) : nI a + 2 = nI (a + 2) := by rw [show (2 : Int32) = nI 2 from rfl, nI_add]
theorem J28_x (E x4 y5 : Int32) {m : Hp} (hM : RM m) : F_X7_readOneCheese_J28 0 E x4 y5 m = F_X7_readOneCheese_J66 0 E x4 (kindV y5) x4 14 m := by
  unfold RM at hM
  unfold F_X7_readOneCheese_J28 kindV
  simp only [hM, ob_s]
  by_cases c1 : y5 = 99
  · rw [if_pos c1, if_pos c1]
  · rw [if_neg c1, if_neg c1]
    by_cases c2 : y5 = 119
    · rw [if_pos c2, if_neg (by rw [c2]; decide), if_pos c2]
    · rw [if_neg c2]
      by_cases c3 : y5 = 109
      · rw [if_pos c3, if_pos c3]
      · rw [if_neg c3, if_neg c3, if_neg c2]
/-- the cell that both read -/
theorem Tx.cell {h k g m : Hp} {e Q p b n C Ks Ts Km Tm a j : Nat} (X : Tx h k e Q p b n) (D : DS h k g m e C Ks Ts Km Tm a) (hj : j < n) : m.1 3 (b + j) = g.1 Q (p + j) := by
  obtain ⟨-, -, -, x4, -, -, -, x8⟩ := X
  rw [D.2.1.2.1 3 (by decide) (by decide) (by decide), x8 j hj, D.1.2 Q x4]
theorem cheese_unit {h k g m : Hp} {e Q p b n C K Tm : Nat} (X : Tx h k e Q p b n) (D : DS h k g m e C (K + 1) 0 K Tm (b + (2 + 4 * K + 1))) (J : JC g m e C K) (hK : K < 4) (hC : 0 < C ∧ C ≤ 5) (hj : 2 + 4 * K + 1 ≤ n) :
    BF h k e b (CL e Q p n (2 + 4 * K + 1) g) (F_X7_readOneCheese 0 (nI (b + n)) m) ∨ ∃ g' m', CL e Q p n (2 + 4 * K + 1) g = CL e Q p n (2 + 4 * (K + 1)) g' ∧ F_X7_readOneCheese 0 (nI (b + n)) m = some (1, m') ∧ DS h k g' m' e C (K + 1) 0 (K + 1) Tm (b + (2 + 4 * (K + 1))) ∧ JC g' m' e C (K + 1) ∧ 2 + 4 * (K + 1) ≤ n := by
  have X' := X
  obtain ⟨xD, xS, xM, x4, x5, x6, x7, x8⟩ := X
  have hM : RM m := RM_c D.2.1.1 xM
  have a0 := aIn_i (sh := shM) (q := 14) (n := 12) (by decide +kernel) (show 3 * K < 12 by omega) (by decide)
  have a1 := aIn_i (sh := shM) (q := 14) (n := 12) (by decide +kernel) (show 3 * K + 1 < 12 by omega) (by decide)
  have a2 := aIn_i (sh := shM) (q := 14) (n := 12) (by decide +kernel) (show 3 * K + 2 < 12 by omega) (by decide)
  have hrd : ∀ y5, ((b + (2 + 4 * K + 1) < b + n ∧ y5 = m.1 3 (b + (2 + 4 * K + 1))) ∨ (b + (2 + 4 * K + 1) = b + n ∧ y5 = 0)) → F_X7_readOneCheese 0 (nI (b + n)) m = F_X7_readOneCheese_J66 0 (nI (b + n)) (nI (3 * K)) (kindV y5) (nI (3 * K)) 14 m := by
    intro y5 hy
    unfold F_X7_readOneCheese
    have e3 : (3 : Int32) * nI K = nI (3 * K) := by rw [show (3 : Int32) = nI 3 from rfl, pk_mul]
    rw [D.2.2.2.2.1, nm_x, e3, D.2.2.2.2.2.2]
    rcases hy with ⟨c, rfl⟩ | ⟨c, rfl⟩
    · have a3 := aIn_i (sh := shM) (q := 3) (n := 240) (by decide +kernel) (show b + (2 + 4 * K + 1) < 240 by omega) (by decide)
      have r4 : m.2 0 4 = some 3 := by unfold RM at hM; simp only [hM]
      rw [if_neg (nI_ge c (by omega)), r4, ob_s, a3, ck_t, cl_i (show b + (2 + 4 * K + 1) < 2 ^ 31 by omega), J28_x _ _ _ hM]
    · rw [c, if_pos (Int32.le_refl _), J28_x _ _ _ hM]
  -- the first code: the kind
  by_cases c1 : 2 + 4 * K + 1 = n
  · left
    rw [hrd 0 (Or.inr ⟨by omega, rfl⟩)]
    unfold F_X7_readOneCheese_J66
    have q2 : ∀ v, (pI m 14 (3 * K) v).2 = m.2 := fun v => rfl
    have r24 : m.2 0 24 = some 14 := by unfold RM at hM; simp only [hM]
    have v14 : (pI m 14 (3 * K) (kindV 0)).1 14 (3 * K) = kindV 0 := by rw [pI_1, if_pos ⟨rfl, rfl⟩]
    simp only [a0, ck_t, nm_x, cl_i (show 3 * K < 2 ^ 31 by omega), q2, r24, ob_s, v14]
    rw [if_pos (show kindV 0 = -9 by decide), c1, CL_end (by omega), kT_0 D.2.2.1.2.2.1]
    have D1 := D.m (i := 3 * K) (v := kindV 0) (Or.inl rfl)
    exact ⟨n, g, _, rfl, rfl, by rw [D1.2.2.2.2.2.2, c1], D1.1, D1.2.1, by omega⟩
  · have hj1 : 2 + 4 * K + 1 < n := by omega
    have hz := X'.cell D hj1
    have hgo := cg_1 (RC_dr D.1.1 xD) xS hK D.2.2.1.2.1 D.2.2.1.2.2.1 (rfl : 2 + 4 * K + 1 = 2 + 4 * K + 1) (g.1 Q (p + (2 + 4 * K + 1)))
    rw [CL_go X' hj1 hgo, hrd _ (Or.inl ⟨by omega, rfl⟩), hz]
    generalize g.1 Q (p + (2 + 4 * K + 1)) = z
    unfold F_X7_readOneCheese_J66
    have q2 : ∀ v, (pI m 14 (3 * K) v).2 = m.2 := fun v => rfl
    have r24 : m.2 0 24 = some 14 := by unfold RM at hM; simp only [hM]
    have v14 : (pI m 14 (3 * K) (kindV z)).1 14 (3 * K) = kindV z := by rw [pI_1, if_pos ⟨rfl, rfl⟩]
    simp only [a0, ck_t, nm_x, cl_i (show 3 * K < 2 ^ 31 by omega), q2, r24, ob_s, v14]
    have D1 := (D.m (i := 3 * K) (v := kindV z) (Or.inl rfl)).g (r := 1) (i := K) (v := kindV z) (by decide)
    by_cases c2 : kindV z = -9
    · left
      rw [if_pos c2, if_pos rfl, if_pos c2]
      exact ⟨2 + 4 * K + 1, _, _, rfl, rfl, D1.2.2.2.2.2.2, D1.1, D1.2.1, by omega⟩
    · rw [if_neg c2, if_neg (by decide), if_neg c2]
      obtain ⟨kx, hkx, ek⟩ := kind_in c2
      have J1 : JC (pI g (e + 1) K (kindV z)) (pI m 14 (3 * K) (kindV z)) e C K := J.c (fun r _ _ i hi => by rw [pI_1, if_neg (fun z => absurd z.2 (by omega))]) (fun j hj => by rw [pI_1, if_neg (fun z => absurd z.2 (by omega))])
      have w1 : (pI g (e + 1) K (kindV z)).1 (e + 1) K = kindV z := by rw [pI_1, if_pos ⟨rfl, rfl⟩]
      generalize pI g (e + 1) K (kindV z) = g1 at D1 J1 w1 ⊢
      have v20 : (pI m 14 (3 * K) (kindV z)).1 0 20 = nI (b + (2 + 4 * K + 1)) := D1.2.2.2.2.2.2
      rw [v20, nI_1]
      have D2 := D1.at_ (b + (2 + 4 * K + 2))
      have J2 : JC g1 (pI (pI m 14 (3 * K) (kindV z)) 0 20 (nI (b + (2 + 4 * K + 2)))) e C K := J1.c (fun _ _ _ _ _ => rfl) (fun j hj => by rw [pI_1, if_neg (fun z => absurd z.1 (by decide))])
      have u1 : (pI (pI m 14 (3 * K) (kindV z)) 0 20 (nI (b + (2 + 4 * K + 2)))).1 14 (3 * K) = kindV z := by rw [pI_1, if_neg (fun z => absurd z.1 (by decide)), v14]
      rw [show b + (2 + 4 * K + 1) + 1 = b + (2 + 4 * K + 2) by omega, show 2 + 4 * K + 1 + 1 = 2 + 4 * K + 2 by omega]
      have m2 : (pI (pI m 14 (3 * K) (kindV z)) 0 20 (nI (b + (2 + 4 * K + 2)))).2 = m.2 := rfl
      generalize pI (pI m 14 (3 * K) (kindV z)) 0 20 (nI (b + (2 + 4 * K + 2))) = n1 at D2 J2 u1 m2 ⊢
      clear D1 J1 v14 v20
      -- the second code: the cellar
      have hM1 : RM n1 := RM_c m2 hM
      rw [m2, r24, ob_s, D2.2.2.2.1]
      rw [digit_x hM1 D2.2.2.2.2.2.2 (by omega) (by omega)]
      by_cases c3 : 2 + 4 * K + 2 = n
      · left
        rw [if_neg (fun q => absurd q.1 (by omega)), bnd_s]
        have v14 : (pI n1 14 (3 * K + 1) (-9)).1 14 (3 * K + 1) = -9 := by rw [pI_1, if_pos ⟨rfl, rfl⟩]
        have q2 : ∀ v, (pI n1 14 (3 * K + 1) v).2 = m.2 := fun v => m2
        simp only [nI_1, a1, ck_t, nm_x, cl_i (show 3 * K + 1 < 2 ^ 31 by omega), q2, r24, ob_s, v14]
        rw [if_pos trivial, c3, CL_end (by omega), kT_0 D2.2.2.1.2.2.1]
        have D3 := D2.m (i := 3 * K + 1) (v := -9) (Or.inl rfl)
        exact ⟨n, g1, _, rfl, rfl, by rw [D3.2.2.2.2.2.2, c3], D3.1, D3.2.1, by omega⟩
      · have hj2 : 2 + 4 * K + 2 < n := by omega
        have hz2 := X'.cell D2 hj2
        have hgo2 := cg_2 (RC_dr D2.1.1 xD) xS hK D2.2.2.1.1 D2.2.2.1.2.1 D2.2.2.1.2.2.1 (rfl : 2 + 4 * K + 2 = 2 + 4 * K + 2) (g1.1 Q (p + (2 + 4 * K + 2)))
        rw [CL_go X' hj2 hgo2, hz2]
        generalize g1.1 Q (p + (2 + 4 * K + 2)) = z2
        by_cases c4 : dgV z2 0 (nI C - 1) = 0
        · left
          rw [if_pos c4, if_neg (show ¬ (b + (2 + 4 * K + 2) < b + n ∧ ¬ dgV z2 0 (nI C - 1) = 0) from fun q => q.2 c4), bnd_s]
          have v14 : (pI n1 14 (3 * K + 1) (-9)).1 14 (3 * K + 1) = -9 := by rw [pI_1, if_pos ⟨rfl, rfl⟩]
          have q2 : ∀ v, (pI n1 14 (3 * K + 1) v).2 = m.2 := fun v => m2
          simp only [nI_1, a1, ck_t, nm_x, cl_i (show 3 * K + 1 < 2 ^ 31 by omega), q2, r24, ob_s, v14]
          rw [if_pos trivial]
          have D3 := (D2.m (i := 3 * K + 1) (v := -9) (Or.inl rfl)).g (r := 2) (i := K) (v := z2 - 48) (by decide)
          exact ⟨2 + 4 * K + 2, _, _, rfl, rfl, D3.2.2.2.2.2.2, D3.1, D3.2.1, by omega⟩
        · rw [if_neg c4, if_pos (show b + (2 + 4 * K + 2) < b + n ∧ ¬ dgV z2 0 (nI C - 1) = 0 from ⟨by omega, c4⟩), bnd_s]
          obtain ⟨H, rfl⟩ : ∃ H, C = H + 1 := ⟨C - 1, by omega⟩
          rw [pm_s] at c4
          obtain ⟨lx, -, hlx, el⟩ := dg_in (lo := 0) (hi := H) (by omega) (by decide) c4
          have q2 : ∀ v, (pI (pI n1 0 20 (nI (b + (2 + 4 * K + 2) + 1))) 14 (3 * K + 1) v).2 = m.2 := fun v => m2
          have v14 : (pI (pI n1 0 20 (nI (b + (2 + 4 * K + 2) + 1))) 14 (3 * K + 1) (z2 - 48)).1 14 (3 * K + 1) = z2 - 48 := by rw [pI_1, if_pos ⟨rfl, rfl⟩]
          simp only [nI_1, a1, ck_t, nm_x, cl_i (show 3 * K + 1 < 2 ^ 31 by omega), q2, r24, ob_s, v14]
          rw [if_neg (by rw [el]; exact nIne9 (by omega))]
          have D3 := ((D2.at_ (b + (2 + 4 * K + 2) + 1)).m (q := 14) (i := 3 * K + 1) (v := z2 - 48) (Or.inl rfl)).g (r := 2) (i := K) (v := z2 - 48) (by decide)
          have J3 : JC (pI g1 (e + 2) K (z2 - 48)) (pI (pI n1 0 20 (nI (b + (2 + 4 * K + 2) + 1))) 14 (3 * K + 1) (z2 - 48)) e (H + 1) K := J2.c (fun r _ _ i hi => by rw [pI_1, if_neg (fun z => absurd z.2 (by omega))]) (fun j hj => by rw [pI_1, if_neg (fun z => absurd z.2 (by omega)), pI_1, if_neg (fun z => absurd z.1 (by decide))])
          have w2 : (pI g1 (e + 2) K (z2 - 48)).1 (e + 1) K = kindV z := by rw [pI_1, if_neg (fun z => absurd z.1 (by omega)), w1]
          have w3 : (pI g1 (e + 2) K (z2 - 48)).1 (e + 2) K = z2 - 48 := by rw [pI_1, if_pos ⟨rfl, rfl⟩]
          have u2 : (pI (pI n1 0 20 (nI (b + (2 + 4 * K + 2) + 1))) 14 (3 * K + 1) (z2 - 48)).1 14 (3 * K) = kindV z := by rw [pI_1, if_neg (fun z => absurd z.2 (by omega)), pI_1, if_neg (fun z => absurd z.1 (by decide)), u1]
          have m3 : (pI (pI n1 0 20 (nI (b + (2 + 4 * K + 2) + 1))) 14 (3 * K + 1) (z2 - 48)).2 = m.2 := m2
          rw [show b + (2 + 4 * K + 2) + 1 = b + (2 + 4 * K + 3) by omega] at D3
          rw [show 2 + 4 * K + 2 + 1 = 2 + 4 * K + 3 by omega]
          generalize pI g1 (e + 2) K (z2 - 48) = g2 at D3 J3 w2 w3 ⊢
          generalize pI (pI n1 0 20 (nI (b + (2 + 4 * K + 2) + 1))) 14 (3 * K + 1) (z2 - 48) = n3 at D3 J3 u2 v14 m3 ⊢
          -- the third code: how thick
          have hM3 : RM n3 := RM_c m3 hM
          rw [digit_x hM3 D3.2.2.2.2.2.2 (by omega) (by omega)]
          have v22 : ∀ q j v, q = 14 → (pI n3 q j v).1 0 22 = nI K := fun q j v hq => by rw [pI_1, if_neg (fun z => absurd z.1 (by omega))]; exact D3.2.2.2.2.1
          by_cases c5 : 2 + 4 * K + 3 = n
          · left
            rw [if_neg (fun q => absurd q.1 (by omega)), bnd_s]
            have q3 : ∀ v x, (pI (pI n3 14 (3 * K + 2) v) 0 22 x).2 = m.2 := fun v x => m3
            have v15 : ∀ x, (pI (pI n3 14 (3 * K + 2) (-9)) 0 22 x).1 14 (3 * K + 2) = -9 := fun x => by rw [pI_1, if_neg (fun z => absurd z.1 (by decide)), pI_1, if_pos ⟨rfl, rfl⟩]
            simp only [n2, a2, ck_t, nm_x, cl_i (show 3 * K + 2 < 2 ^ 31 by omega), q3, r24, ob_s, v15]
            rw [if_pos trivial, c5, CL_end (by omega), kT_0 D3.2.2.1.2.2.1, v22 _ _ _ rfl, nI_1]
            have D4 := (D3.m (i := 3 * K + 2) (v := -9) (Or.inl rfl)).km (K + 1)
            exact ⟨n, g2, _, rfl, rfl, by rw [D4.2.2.2.2.2.2, c5], D4.1, D4.2.1, by omega⟩
          · have hj3 : 2 + 4 * K + 3 < n := by omega
            have hz3 := X'.cell D3 hj3
            have hgo3 := cg_3 (RC_dr D3.1.1 xD) xS hK D3.2.2.1.2.1 D3.2.2.1.2.2.1 (rfl : 2 + 4 * K + 3 = 2 + 4 * K + 3) (g2.1 Q (p + (2 + 4 * K + 3)))
            rw [CL_go X' hj3 hgo3, hz3]
            generalize g2.1 Q (p + (2 + 4 * K + 3)) = z3
            by_cases c6 : dgV z3 0 9 = 0
            · left
              rw [if_pos c6, if_neg (show ¬ (b + (2 + 4 * K + 3) < b + n ∧ ¬ dgV z3 0 9 = 0) from fun q => q.2 c6), bnd_s]
              have q3 : ∀ v x, (pI (pI n3 14 (3 * K + 2) v) 0 22 x).2 = m.2 := fun v x => m3
              have v15 : ∀ x, (pI (pI n3 14 (3 * K + 2) (-9)) 0 22 x).1 14 (3 * K + 2) = -9 := fun x => by rw [pI_1, if_neg (fun z => absurd z.1 (by decide)), pI_1, if_pos ⟨rfl, rfl⟩]
              simp only [n2, a2, ck_t, nm_x, cl_i (show 3 * K + 2 < 2 ^ 31 by omega), q3, r24, ob_s, v15]
              rw [if_pos trivial, v22 _ _ _ rfl, nI_1]
              have D4 := ((D3.m (i := 3 * K + 2) (v := -9) (Or.inl rfl)).km (K + 1)).g (r := 3) (i := K) (v := z3 - 48) (by decide)
              exact ⟨2 + 4 * K + 3, _, _, rfl, rfl, D4.2.2.2.2.2.2, D4.1, D4.2.1, by omega⟩
            · right
              rw [if_neg c6, if_pos (show b + (2 + 4 * K + 3) < b + n ∧ ¬ dgV z3 0 9 = 0 from ⟨by omega, c6⟩), bnd_s]
              obtain ⟨tx, -, htx, et⟩ := dg_in (lo := 0) (hi := 9) (by decide) (by decide) c6
              have q3 : ∀ v x, (pI (pI (pI n3 0 20 (nI (b + (2 + 4 * K + 3) + 1))) 14 (3 * K + 2) v) 0 22 x).2 = m.2 := fun v x => m3
              have v15 : ∀ x, (pI (pI (pI n3 0 20 (nI (b + (2 + 4 * K + 3) + 1))) 14 (3 * K + 2) (z3 - 48)) 0 22 x).1 14 (3 * K + 2) = z3 - 48 := fun x => by rw [pI_1, if_neg (fun z => absurd z.1 (by decide)), pI_1, if_pos ⟨rfl, rfl⟩]
              have v22' : ∀ v, (pI (pI n3 0 20 (nI (b + (2 + 4 * K + 3) + 1))) 14 (3 * K + 2) v).1 0 22 = nI K := fun v => by rw [pI_1, if_neg (fun z => absurd z.1 (by decide)), pI_1, if_neg (fun z => absurd z.2 (by decide))]; exact D3.2.2.2.2.1
              simp only [n2, a2, ck_t, nm_x, cl_i (show 3 * K + 2 < 2 ^ 31 by omega), q3, r24, ob_s, v15, v22', nI_1]
              rw [if_neg (by rw [et]; exact nIne9 (by omega))]
              have D4 := (((D3.at_ (b + (2 + 4 * K + 3) + 1)).m (q := 14) (i := 3 * K + 2) (v := z3 - 48) (Or.inl rfl)).km (K + 1)).g (r := 3) (i := K) (v := z3 - 48) (by decide)
              rw [show b + (2 + 4 * K + 3) + 1 = b + (2 + 4 * (K + 1)) by omega] at D4
              rw [show b + (2 + 4 * K + 3) + 1 = b + (2 + 4 * (K + 1)) by omega]
              refine ⟨_, _, by rw [show 2 + 4 * K + 3 + 1 = 2 + 4 * (K + 1) by omega], rfl, D4, ?_, by omega⟩
              intro i hi
              by_cases q : i = K
              · subst q
                have o1 : ∀ r, r ≠ 3 → (pI g2 (e + 3) i (z3 - 48)).1 (e + r) i = g2.1 (e + r) i := fun r hr => by rw [pI_1, if_neg (fun z => absurd z.1 (by omega))]
                have o3 : (pI g2 (e + 3) i (z3 - 48)).1 (e + 3) i = z3 - 48 := by rw [pI_1, if_pos ⟨rfl, rfl⟩]
                have p0 : ∀ j, j ≠ 3 * i + 2 → (pI (pI (pI n3 0 20 (nI (b + (2 + 4 * (i + 1))))) 14 (3 * i + 2) (z3 - 48)) 0 22 (nI (i + 1))).1 14 j = n3.1 14 j := fun j hj => by rw [pI_1, if_neg (fun z => absurd z.1 (by decide)), pI_1, if_neg (fun z => hj z.2), pI_1, if_neg (fun z => absurd z.1 (by decide))]
                have p2 : (pI (pI (pI n3 0 20 (nI (b + (2 + 4 * (i + 1))))) 14 (3 * i + 2) (z3 - 48)) 0 22 (nI (i + 1))).1 14 (3 * i + 2) = z3 - 48 := by rw [pI_1, if_neg (fun z => absurd z.1 (by decide)), pI_1, if_pos ⟨rfl, rfl⟩]
                rw [o1 1 (by decide), o1 2 (by decide), o3, p0 _ (by omega), p0 _ (by omega), p2, w2, w3, u2, v14]
                exact ⟨⟨kx, hkx, ek⟩, ⟨lx, by omega, el⟩, ⟨tx, by omega, et⟩, rfl, rfl, rfl⟩
              · exact JC.c (K := K) J3 (fun r _ _ x hx => by rw [pI_1, if_neg (fun z => absurd z.2 (by omega))]) (fun j hj => by rw [pI_1, if_neg (fun z => absurd z.1 (by decide)), pI_1, if_neg (fun z => absurd z.2 (by omega)), pI_1, if_neg (fun z => absurd z.1 (by decide))]) i (by omega)
