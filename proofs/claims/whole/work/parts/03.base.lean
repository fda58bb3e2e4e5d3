def AW : List Cond := lw_tbl.filter goodWord
theorem aw_t0 {w : Cond} {i : Nat} (h : (k2_sels lw_privs)[i]? = some w) (g : goodWord w = true) : w ∈ AW := List.mem_filter.mpr ⟨List.mem_append_left _ (List.mem_of_getElem? h), g⟩
theorem aw_tt {w : Cond} (h : w ∈ tables_1) (g : goodWord w = true) : w ∈ AW := List.mem_filter.mpr ⟨List.mem_append_right _ h, g⟩
theorem aw_t1 {w : Cond} {i : Nat} (h : tables_1_1[i]? = some w) (g : goodWord w = true) : w ∈ AW := aw_tt (List.mem_append_left _ (List.mem_of_getElem? h)) g
theorem aw_t2 {w : Cond} {i : Nat} (h : tables_1_2[i]? = some w) (g : goodWord w = true) : w ∈ AW := aw_tt (List.mem_append_right _ (List.mem_append_left _ (List.mem_of_getElem? h))) g
theorem aw_t3 {w : Cond} {i : Nat} (h : tables_1_3[i]? = some w) (g : goodWord w = true) : w ∈ AW := aw_tt (List.mem_append_right _ (List.mem_append_right _ (List.mem_append_left _ (List.mem_of_getElem? h)))) g
theorem aw_t4 {w : Cond} {i : Nat} (h : tables_1_4[i]? = some w) (g : goodWord w = true) : w ∈ AW := aw_tt (List.mem_append_right _ (List.mem_append_right _ (List.mem_append_right _ (List.mem_append_left _ (List.mem_of_getElem? h))))) g
theorem aw_t5 {w : Cond} {i : Nat} (h : tables_1_5[i]? = some w) (g : goodWord w = true) : w ∈ AW := aw_tt (List.mem_append_right _ (List.mem_append_right _ (List.mem_append_right _ (List.mem_append_right _ (List.mem_of_getElem? h))))) g
/-! the memory of a system whose cells lie side by side: cell k at B + k; its shape is fixed, its contents are two functions -/
abbrev Hp : Type := (Nat → Nat → Int32) × (Nat → Nat → Option Nat)
abbrev Sh : Type := List (Nat × Nat)
abbrev Cs : Type := ClassId × ClassId × ClassId
abbrev Ev : Type := Launch × va_G × Cs × Nat
abbrev Cx : Type := Program × Env × Room × State × MethodId × Array Value × List Frame × Method × Code × Option Value × Hp
def u2 {α : Type} (f : Nat → Nat → α) (q j : Nat) (v : α) : Nat → Nat → α := fun a b => if a = q ∧ b = j then v else f a b
def pI (h : Hp) (q j : Nat) (v : Int32) : Hp := (u2 h.1 q j v, h.2)
def pR (h : Hp) (q j : Nat) (v : Option Nat) : Hp := (h.1, u2 h.2 q j v)
def pC (h : Hp) (a b : Nat) (sp dp n : Nat) : Hp := (fun q j => if q = b then va_cpy (h.1 a) (h.1 b) sp dp n j else h.1 q j, h.2)
def isRf (ci j : Nat) : Bool := match vwCl[ci]? with
  | some r => (match ((r.2.1 j).2.2.1).toList with
    | 'I' :: _ => false
    | _ => true)
  | none => false
def nF (ci : Nat) : Nat := match vwCl[ci]? with
  | some r => r.2.2
  | none => 0
def vO (B : Nat) (x : Option Nat) : Value := va_rf (x.map (B + ·))
def fl (B : Nat) (h : Hp) (k ci : Nat) : List Value := (List.range (nF ci)).map fun j => if isRf ci j then vO B (h.2 k j) else .int (h.1 k j)
def rA (B : Nat) (h : Hp) (k : Nat) : Nat → Option Nat := fun j => (h.2 k j).map (B + ·)
def ent (B : Nat) (cs : Cs) (h : Hp) (k : Nat) (x : Nat × Nat) : va_E := match x.1 with
  | 0 => .inr (x.2, fl B h k x.2)
  | 1 => .inl (cs.1, x.2, .inl (h.1 k))
  | 2 => .inl (cs.2.1, x.2, .inr (.inr (.inr (.inr (rA B h k)))))
  | _ => .inl (cs.2.2, x.2, .inr (.inr (.inr (.inr (rA B h k)))))
def mw (B : Nat) (cs : Cs) (sh : Sh) (h : Hp) : va_W := sh.mapIdx fun k x => (B + k, ent B cs h k x)
def tyl (cs : Cs) : List (ClassId × FieldType) := [(cs.1, .int), (cs.2.1, .object RX1), (cs.2.2, .array .int)]
def AA (B n : Nat) : Nat → Prop := fun q => B ≤ q ∧ q < B + n
def isO (sh : Sh) (q ci : Nat) : Bool := sh[q]? == some (0, ci)
def aLn (sh : Sh) (q : Nat) : Option Nat := match sh[q]? with
  | some (1, n) => some n
  | _ => none
def aIn (sh : Sh) (q : Nat) (i : Int32) : Bool := match sh[q]? with
  | some (1, n) => decide (¬ i < 0) && decide (i.toNatClampNeg < n)
  | _ => false
def aRn (sh : Sh) (kd : Nat) (q : Nat) (i : Int32) : Bool := match sh[q]? with
  | some (k, n) => decide (k = kd) && (decide (¬ i < 0) && decide (i.toNatClampNeg < n))
  | none => false
def aCp (sh : Sh) (a : Nat) (sp : Int32) (b : Nat) (dp n : Int32) : Bool := match sh[a]?, sh[b]? with
  | some (1, n0), some (1, n1) => decide (¬ sp < 0) && (decide (¬ dp < 0) && (decide (¬ n < 0) && (decide (sp.toNatClampNeg + n.toNatClampNeg ≤ n0) && decide (dp.toNatClampNeg + n.toNatClampNeg ≤ n1))))
  | _, _ => false
def nm {α β : Type} (v : α) (k : α → Option β) : Option β := k v
def ck {β : Type} (b : Bool) (o : Option β) : Option β := if b then o else none
def gO {β : Type} (sh : Sh) (x : Option Nat) (ci : Nat) (k : Nat → Option β) : Option β := x.bind fun q => ck (isO sh q ci) (k q)
def bnd {α β : Type} (o : Option (α × Hp)) (k : α → Hp → Option β) : Option β := o.bind fun p => k p.1 p.2
def rmL (t : Nat) : Room := { frames := t, cells := 0, slots := 0, locals := 64 * t }
theorem mw_len {B : Nat} {cs : Cs} {sh : Sh} {h : Hp} : (mw B cs sh h).length = sh.length := by simp [mw]
theorem mw_get {B : Nat} {cs : Cs} {sh : Sh} {h : Hp} {k : Nat} {x : Nat × Nat} (hk : sh[k]? = some x) : (mw B cs sh h)[k]? = some (B + k, ent B cs h k x) := by
  simp [mw, List.getElem?_mapIdx, hk]
theorem mw_inv {B : Nat} {cs : Cs} {sh : Sh} {h : Hp} {k : Nat} {q : Nat × va_E} (hk : (mw B cs sh h)[k]? = some q) : ∃ x, sh[k]? = some x ∧ q = (B + k, ent B cs h k x) := by
  rw [mw, List.getElem?_mapIdx] at hk
  cases hx : sh[k]? with
  | none => rw [hx] at hk; cases hk
  | some x => rw [hx] at hk; exact ⟨x, rfl, (Option.some.inj hk).symm⟩
theorem mw_D {B : Nat} {cs : Cs} {sh : Sh} {h : Hp} : va_D (AA B sh.length) (mw B cs sh h) := by
  refine ⟨fun i j p q hi hj e => ?_, fun k q hk => ?_⟩
  · obtain ⟨x, -, rfl⟩ := mw_inv hi
    obtain ⟨y, -, rfl⟩ := mw_inv hj
    exact Nat.add_left_cancel e
  · obtain ⟨x, hx, rfl⟩ := mw_inv hk
    have hl := (List.getElem?_eq_some_iff.mp hx).1
    exact ⟨Nat.le_add_right _ _, Nat.add_lt_add_left hl _⟩
theorem mw_set {B : Nat} {cs : Cs} {sh : Sh} {h h' : Hp} {k : Nat} {x : Nat × Nat} (hk : sh[k]? = some x) (hd : ∀ a y, a ≠ k → ent B cs h a y = ent B cs h' a y) : (mw B cs sh h).set k (B + k, ent B cs h' k x) = mw B cs sh h' := by
  apply List.ext_getElem?
  intro i
  rw [List.getElem?_set]
  by_cases e : k = i
  · subst e
    have hl := (List.getElem?_eq_some_iff.mp hk).1
    rw [if_pos rfl, if_pos (by rw [mw_len]; exact hl), mw_get hk]
  · rw [if_neg e]
    cases hx : sh[i]? with
    | none => simp [mw, List.getElem?_mapIdx, hx]
    | some y => rw [mw_get hx, mw_get hx, hd i y (fun q => e q.symm)]
theorem u2_s {α : Type} {f : Nat → Nat → α} {q j : Nat} {v : α} : u2 f q j v q j = v := by simp [u2]
theorem u2_q {α : Type} {f : Nat → Nat → α} {q j a : Nat} {v : α} (h : a ≠ q) : u2 f q j v a = f a := by
  funext b
  simp [u2, h]
theorem u2_j {α : Type} {f : Nat → Nat → α} {q j a b : Nat} {v : α} (h : b ≠ j) : u2 f q j v a b = f a b := by simp [u2, h]
theorem ent_cong {B : Nat} {cs : Cs} {h h' : Hp} {a : Nat} {y : Nat × Nat} (e1 : h.1 a = h'.1 a) (e2 : h.2 a = h'.2 a) : ent B cs h a y = ent B cs h' a y := by
  unfold ent fl rA
  rw [e1, e2]
theorem pI_off {B : Nat} {cs : Cs} {h : Hp} {k j : Nat} {v : Int32} : ∀ a y, a ≠ k → ent B cs h a y = ent B cs (pI h k j v) a y := fun a y ha => ent_cong (u2_q ha).symm rfl
theorem pR_off {B : Nat} {cs : Cs} {h : Hp} {k j : Nat} {v : Option Nat} : ∀ a y, a ≠ k → ent B cs h a y = ent B cs (pR h k j v) a y := fun a y ha => ent_cong rfl (u2_q ha).symm
theorem pC_off {B : Nat} {cs : Cs} {h : Hp} {a0 k sp dp n : Nat} : ∀ a y, a ≠ k → ent B cs h a y = ent B cs (pC h a0 k sp dp n) a y := by
  intro a y ha
  refine ent_cong ?_ rfl
  funext j
  simp [pC, ha]
theorem fl_get {B : Nat} {h : Hp} {k ci j : Nat} (hj : j < nF ci) : (fl B h k ci)[j]? = some (if isRf ci j then vO B (h.2 k j) else .int (h.1 k j)) := by
  simp [fl, hj]
theorem fl_len {B : Nat} {h : Hp} {k ci : Nat} : (fl B h k ci).length = nF ci := by simp [fl]
theorem fl_I {B : Nat} {h : Hp} {k ci j : Nat} {v : Int32} (hr : isRf ci j = false) : (fl B h k ci).set j (.int v) = fl B (pI h k j v) k ci := by
  apply List.ext_getElem?
  intro i
  rw [List.getElem?_set]
  by_cases hi : i < nF ci
  · by_cases e : j = i
    · subst e
      rw [if_pos rfl, if_pos (by rw [fl_len]; exact hi), fl_get hi, hr, pI]
      simp [u2_s]
    · rw [if_neg e, fl_get hi, fl_get hi]; dsimp only [pI]; rw [u2_j (fun q => e q.symm)]
  · have h1 : (fl B h k ci)[i]? = none := List.getElem?_eq_none (by rw [fl_len]; omega)
    have h2 : (fl B (pI h k j v) k ci)[i]? = none := List.getElem?_eq_none (by rw [fl_len]; omega)
    rw [h1, h2]
    split
    · rw [if_neg]
      rw [fl_len]; omega
    · rfl
theorem fl_R {B : Nat} {h : Hp} {k ci j q : Nat} (hr : isRf ci j = true) : (fl B h k ci).set j (.ref (B + q)) = fl B (pR h k j (some q)) k ci := by
  apply List.ext_getElem?
  intro i
  rw [List.getElem?_set]
  by_cases hi : i < nF ci
  · by_cases e : j = i
    · subst e
      rw [if_pos rfl, if_pos (by rw [fl_len]; exact hi), fl_get hi, hr, pR]
      simp [u2_s, vO, va_rf]
    · rw [if_neg e, fl_get hi, fl_get hi]; dsimp only [pR]; rw [u2_j (fun q => e q.symm)]
  · have h1 : (fl B h k ci)[i]? = none := List.getElem?_eq_none (by rw [fl_len]; omega)
    have h2 : (fl B (pR h k j (some q)) k ci)[i]? = none := List.getElem?_eq_none (by rw [fl_len]; omega)
    rw [h1, h2]
    split
    · rw [if_neg]
      rw [fl_len]; omega
    · rfl
theorem isO_sh {sh : Sh} {q ci : Nat} (h : isO sh q ci = true) : sh[q]? = some (0, ci) := by
  unfold isO at h
  simpa using h
theorem aIn_sh {sh : Sh} {q : Nat} {i : Int32} (h : aIn sh q i = true) : ∃ n, sh[q]? = some (1, n) ∧ vp_in i n ∧ i.toNatClampNeg < n := by
  unfold aIn at h
  split at h
  · next n hn =>
    simp only [Bool.and_eq_true, decide_eq_true_eq] at h
    exact ⟨n, hn, fun q => q.elim h.1 (fun z => absurd h.2 (Nat.not_lt.mpr z)), h.2⟩
  · cases h
theorem aRn_sh {sh : Sh} {q kd : Nat} {i : Int32} (h : aRn sh kd q i = true) : ∃ n, sh[q]? = some (kd, n) ∧ vp_in i n ∧ i.toNatClampNeg < n := by
  unfold aRn at h
  split at h
  · next k n hn =>
    simp only [Bool.and_eq_true, decide_eq_true_eq] at h
    obtain ⟨e, h1, h2⟩ := h
    subst e
    exact ⟨n, hn, fun q => q.elim h1 (fun z => absurd h2 (Nat.not_lt.mpr z)), h2⟩
  · cases h
theorem aLn_sh {sh : Sh} {q n : Nat} (h : aLn sh q = some n) : sh[q]? = some (1, n) := by
  unfold aLn at h
  split at h
  · next n' hn => cases h; exact hn
  · cases h
theorem aCp_sh {sh : Sh} {a b : Nat} {sp dp n : Int32} (h : aCp sh a sp b dp n = true) : ∃ n0 n1, sh[a]? = some (1, n0) ∧ sh[b]? = some (1, n1) ∧ ¬ sp < 0 ∧ ¬ dp < 0 ∧ ¬ n < 0 ∧ sp.toNatClampNeg + n.toNatClampNeg ≤ n0 ∧ dp.toNatClampNeg + n.toNatClampNeg ≤ n1 := by
  unfold aCp at h
  split at h
  · next n0 n1 h0 h1 =>
    simp only [Bool.and_eq_true, decide_eq_true_eq] at h
    exact ⟨n0, n1, h0, h1, h.1, h.2.1, h.2.2.1, h.2.2.2.1, h.2.2.2.2⟩
  · cases h
/-! locals -/
def hasL (ls : Array Slot) (nL : Nat) (L : List (Option Value)) : Prop := ls.size = nL ∧ lv_wf ls ∧ ∀ (i : Nat) (v : Value), L[i]? = some (some v) → ls[i]? = some (.val v)
def lz (L : List (Option Value)) : List (Nat × Value) := (List.range L.length).filterMap fun i => (L[i]?.getD none).map fun v => (i, v)
theorem lz_mem {L : List (Option Value)} {i : Nat} {v : Value} : (i, v) ∈ lz L ↔ L[i]? = some (some v) := by
  unfold lz
  rw [List.mem_filterMap]
  constructor
  · rintro ⟨a, ha, h⟩
    have hl := List.mem_range.mp ha
    rw [List.getElem?_eq_getElem hl] at h
    cases hx : L[a] with
    | none => simp [hx] at h
    | some w =>
      simp [hx] at h
      obtain ⟨rfl, rfl⟩ := h
      rw [List.getElem?_eq_getElem hl, hx]
  · intro h
    have hl := (List.getElem?_eq_some_iff.mp h).1
    exact ⟨i, List.mem_range.mpr hl, by rw [h]; rfl⟩
theorem hasL.to {ls : Array Slot} {nL : Nat} {L : List (Option Value)} (h : hasL ls nL L) : lv_has ls nL (lz L) := ⟨h.1, h.2.1, fun q hq => h.2.2 q.1 q.2 (lz_mem.mp hq)⟩
def noL (L : List (Option Value)) (i : Nat) : Bool := match i with
  | 0 => true
  | j + 1 => match L[j]? with
    | some (some v) => v.category != 2
    | _ => true
theorem hasL.st1 {ls : Array Slot} {nL : Nat} {L L' : List (Option Value)} {i : Nat} {v : Value} (h : lv_has ls nL ((i, v) :: (lz L).filter (fun q => !(q.1 == i) && !(q.1 + 1 == i && q.2.category == 2)))) (hn : noL L i = true) (hL : L.set i (some v) = L') : hasL ls nL L' := by
  subst hL
  refine ⟨h.1, h.2.1, fun j w hj => ?_⟩
  rw [List.getElem?_set] at hj
  by_cases e : i = j
  · subst e
    rw [if_pos rfl] at hj
    split at hj
    · cases hj
      exact h.2.2 (i, _) List.mem_cons_self
    · cases hj
  · rw [if_neg e] at hj
    refine h.2.2 (j, w) (List.mem_cons_of_mem _ (List.mem_filter.mpr ⟨lz_mem.mpr hj, ?_⟩))
    have h1 : (j == i) = false := by simpa using fun q => e q.symm
    by_cases e2 : j + 1 = i
    · subst e2
      have h2 : w.category ≠ 2 := by
        unfold noL at hn
        simp only [hj] at hn
        simpa using hn
      simp [h2]
    · have e5 : ¬ j = i := fun q => e q.symm
      simp [e2, e5]
theorem hasL.st2 {ls : Array Slot} {nL : Nat} {L L' : List (Option Value)} {i : Nat} {v : Value} (h : lv_has ls nL ((i, v) :: (lz L).filter (fun q => !(q.1 == i) && (!(q.1 == i + 1) && !(q.1 + 1 == i && q.2.category == 2))))) (hn : noL L i = true) (hL : (L.set i (some v)).set (i + 1) none = L') : hasL ls nL L' := by
  subst hL
  refine ⟨h.1, h.2.1, fun j w hj => ?_⟩
  rw [List.getElem?_set] at hj
  by_cases e3 : i + 1 = j
  · rw [if_pos e3] at hj
    split at hj <;> cases hj
  rw [if_neg e3, List.getElem?_set] at hj
  by_cases e : i = j
  · subst e
    rw [if_pos rfl] at hj
    split at hj
    · cases hj
      exact h.2.2 (i, _) List.mem_cons_self
    · cases hj
  · rw [if_neg e] at hj
    refine h.2.2 (j, w) (List.mem_cons_of_mem _ (List.mem_filter.mpr ⟨lz_mem.mpr hj, ?_⟩))
    by_cases e2 : j + 1 = i
    · subst e2
      have h2 : w.category ≠ 2 := by
        unfold noL at hn
        simp only [hj] at hn
        simpa using hn
      have e4 : ¬ j = j + 1 + 1 := by omega
      simp [h2, e4]
    · have e4 : ¬ j = i + 1 := fun q => e3 q.symm
      have e5 : ¬ j = i := fun q => e q.symm
      simp [e2, e4, e5]
theorem hasL.drop {ls : Array Slot} {nL : Nat} {L L' : List (Option Value)} {i : Nat} (h : hasL ls nL L) (hL : L.set i none = L') : hasL ls nL L' := by
  subst hL
  refine ⟨h.1, h.2.1, fun j w hj => ?_⟩
  rw [List.getElem?_set] at hj
  split at hj
  · split at hj <;> cases hj
  · exact h.2.2 j w hj
def Lof (n : Nat) (av : List Value) : List (Option Value) := (List.range n).map fun i => ((lv_args 0 av).find? (fun q => q.1 == i)).map (·.2)
theorem hasL.of {ls : Array Slot} {n : Nat} {av : List Value} (h : lv_has ls n (lv_args 0 av)) : hasL ls n (Lof n av) := by
  refine ⟨h.1, h.2.1, fun i v hi => ?_⟩
  unfold Lof at hi
  rw [List.getElem?_map] at hi
  cases hr : (List.range n)[i]? with
  | none => rw [hr] at hi; cases hi
  | some j =>
    rw [hr] at hi
    have hji : j = i := by
      have := (List.getElem?_eq_some_iff.mp hr)
      obtain ⟨_, e⟩ := this
      simpa using e.symm
    subst hji
    have hi2 := Option.some.inj hi
    dsimp only at hi2
    cases hf : (lv_args 0 av).find? (fun q => q.1 == j) with
    | none => rw [hf] at hi2; cases hi2
    | some q =>
      rw [hf] at hi2
      have h1 := List.mem_of_find?_eq_some hf
      have h2 := List.find?_some hf
      have h3 : q.1 = j := by simpa using h2
      have h4 : q.2 = v := by simpa using hi2
      have := h.2.2 q h1
      rw [h3, h4] at this
      exact this
/-! the judgement -/
def Qm (E : Ev) (sh : Sh) (tv : Option Value) (th : Hp) : Array Value → State → Outcome → State → Prop := fun _ st oc t => (oc = .returned tv ∧ va_P E.2.1 vwCl (mw E.2.2.2 E.2.2.1 sh th) t.heap) ∧ va_F (AA E.2.2.2 sh.length) st t
def Ok (E : Ev) (X : Cx) (cc : ByteArray) (own : String) (nL : Nat) (ret : Option FieldType) (t : Nat) : Prop := match X with
  | (p, e, R, s, m, args, below, meth, c, tv, th) => p.tables.exec = Jvm.exec ∧ c.code = cc ∧ c.maxLocals = nL ∧ s.vm.findClass own = some m.cls ∧ (∀ w ∈ AW, w.before args s = true) ∧ va_K E.2.1 vwCl (tyl E.2.2.1) s ∧ meth.sig.returnType = ret ∧ meth.locks = false ∧ R = rmL t
def G {α : Type} (E : Ev) (sh : Sh) (X : Cx) (val : α → Option Value) (pc : Nat) (L : List (Option Value)) (st : List Value) (h : Hp) (o : Option (α × Hp)) : Prop := match X with
  | (p, e, R, s, m, args, below, meth, c, tv, th) => ∀ (r : α) (h' : Hp), o = some (r, h') → val r = tv → h' = th → ∀ (ls : Array Slot) (H : Heap) (locs : List Loc), hasL ls c.maxLocals L → va_P E.2.1 vwCl (mw E.2.2.2 E.2.2.1 sh h) H → va_S (AA E.2.2.2 sh.length) s.heap H locs →
    W p E.1 e R s m args below meth c H locs 0 0 (MQ below (Qm E sh tv th) args s 0 0 (AA E.2.2.2 sh.length)) (F0 m pc ls st)
def Ctr (E : Ev) (sh : Sh) (y : MethodName) (cc : ByteArray) (nL : Nat) (ret : Option FieldType) (t : Nat) (av : List Value) (h : Hp) (tv : Option Value) (th : Hp) : Prop :=
  Met E.1 y (Cond.code y cc nL ret :: AW) (rmL t) (va_Pc av (fun U => va_P E.2.1 vwCl (mw E.2.2.2 E.2.2.1 sh h) U.heap ∧ va_K E.2.1 vwCl (tyl E.2.2.1) U)) (Qm E sh tv th) 0 0 (AA E.2.2.2 sh.length)
abbrev vi : Int32 → Option Value := fun r => some (.int r)
abbrev vl : Int64 → Option Value := fun r => some (.long r)
abbrev vv : Unit → Option Value := fun _ => none
theorem Ctr.ofG {E : Ev} {sh : Sh} {y : MethodName} {cc : ByteArray} {nL : Nat} {ret : Option FieldType} {t : Nat} {av : List Value} {h : Hp} {α : Type} {val : α → Option Value} {o : Option (α × Hp)} {r : α} {h' : Hp} (e : o = some (r, h')) (hy : plainName y.cls = true) (hlen : (lg_sl av).length ≤ nL) (L0 : List (Option Value)) (hL0 : Lof nL av = L0)
    (body : ∀ X, Ok E X cc y.cls nL ret t → G E sh X val 0 L0 [] h o) : Ctr E sh y cc nL ret t av h (val r) h' := by
  refine Met.ofW (cc := cc) (maxL := nL) (ret := ret) hy rfl ?_
  intro p e s m args below meth c s₁ B hml hv
  obtain ⟨rfl, hP, hK⟩ := hv
  have hx := B.exec
  have hb := B.bytes
  have hr := B.returns
  have hts := atoms_spec (ws := Cond.code y cc nL ret :: AW) B.pre
  have hown : s.vm.findClass y.cls = some m.cls := findClass_of_methodNamed B.named
  have hlocks := B.notSynchronized
  have hl := lv_entry av (n := nL) hlen
  rw [lg_entry_eq]
  generalize (lg_sl av ++ List.replicate (nL - (lg_sl av).length) Slot.unset).toArray = ls at hl ⊢
  have hl2 := hasL.of hl
  rw [hL0] at hl2
  exact body (p, e, rmL t, s, m, av.toArray, below, meth, c, val r, h') ⟨hx, hb, hml, hown, fun w hw => hts w (List.mem_cons_of_mem _ hw), hK, hr, hlocks, rfl⟩ r h' ‹o = some (r, h')› rfl rfl ls s.heap [] (by rw [hml]; exact hl2) hP va_S.rf
