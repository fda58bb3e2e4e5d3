/-! THE CLAIM OUT OF ONE WALK OF THE LAW'S BODY. Your part is whole_start (and what it stands on); all else here is the same for every law, but numbers. -/
def R_law : String := "RindTalkLaw"
def lw_P (b : Addr) (xs : List Int32) (args : Array Value) (s : State) : Prop := args = #[.ref b] ∧ s.IntsAt b xs ∧ xs.length ≤ 3072 ∧ (Jvm.Cond.and given_1 narrow_1).before args s = true
def lw_Q (_ : Array Value) (s : State) (o : Outcome) (t : State) : Prop := o = .returned (some (.int 1)) ∧ Framed s o t [] 600000 7302250
def lw_Z (below : List Frame) (a : Array Value) (s : State) : State → Prop := fun t => ∃ o, t.status = .running ∧ Ended t below o ∧ lw_Q a s o t
/-- the law's own end, with 1 on the stack, nothing written that was there before, its room as the claim has it -/
theorem lw_ret {p : Program} {l : Launch} {e : Env} {s : State} {m : MethodId} {below : List Frame} {meth : Method} {c : Code} {b : Nat} (hx : p.tables.exec = Jvm.exec) (hb : c.code = code) (hr : meth.sig.returnType = ret) (hlocks : meth.locks = false) {pc : Nat} {H : Heap} {ls : Array Slot} (hdg : decode code pc = .ok (.ireturn, 1)) : W p l e room_1 s m #[Value.ref b] below meth c H [] 600000 7302250 (lw_Z below #[Value.ref b] s) (F0 m pc ls [.int 1]) := by
  intro T hT X
  obtain ⟨fs, hret, hrun, hended, hW, hframe⟩ := X.leave (v := some (.int 1)) (hlocks := hlocks) (fun h => by rw [hr] at h; cases h)
  have hmeth' : T.vm.method? m = some meth := X.method'
  refine ⟨T.setFrames fs, ?_, .returned (some (.int 1)), hrun, hended, rfl, ⟨_, rfl⟩, hW, hframe⟩
  jvm_step X.here [X.here.top, hx, hb, hdg, hmeth', hr, ret, narrow_b1]
  (try refine ⟨rfl, ?_⟩); (try refine ⟨rfl, ?_⟩)
  first | (intro acts; rw [hret _ acts rfl rfl rfl]) | rw [hret _ _ rfl rfl rfl]
  exact Steps.refl _
/-- what holds at the law's entry: the machine, the code, the tables' words (any of lw_tbl by 'hts w (by decide +kernel)'), the script of L ints xs at the cell b, what the Statement gives of the start (any of its parts by flat_of_before) -/
def lw_At (p : Program) (s : State) (m : MethodId) (meth : Method) (c : Code) (b L : Nat) (xs : Nat → Int32) : Prop :=
  p.tables.exec = Jvm.exec ∧ c.code = code ∧ meth.sig.returnType = ret ∧ c.maxLocals = 4 ∧ s.vm.findClass R_law = some m.cls ∧ (∀ w ∈ lw_tbl, w.before #[Value.ref b] s = true) ∧ va_X b L xs s s.heap ∧ b < s.heap.size ∧ meth.locks = false ∧ (Jvm.Cond.and given_1 narrow_1).before #[Value.ref b] s = true
abbrev Yx : Type := Program × Launch × Env × State × MethodId × List Frame × Method × Code × Nat × Nat × (Nat → Int32) × va_G × Cs
def OL (Y : Yx) : Prop := match Y with
  | (p, l, e, s, m, below, meth, c, b, n, xs, D, cs) => lw_At p s m meth c b n xs ∧ n ≤ 3072 ∧ va_K D vwCl (tyl cs) s ∧ (∀ w ∈ AW, w.before #[Value.ref b] s = true)
def yb (Y : Yx) : Nat := Y.2.2.2.2.2.2.2.2.1
def yn (Y : Yx) : Nat := Y.2.2.2.2.2.2.2.2.2.1
def yx (Y : Yx) : Nat → Int32 := Y.2.2.2.2.2.2.2.2.2.2.1
def yB (Y : Yx) : Nat := Y.2.2.2.1.heap.size
def GL (Y : Yx) (pc : Nat) (L : List (Option Value)) (st : List Value) (h k : Hp) : Prop := match Y with
  | (p, l, e, s, m, below, meth, c, b, n, xs, D, cs) => ∀ (ls : Array Slot) (H : Heap) (locs : List Loc), hasL ls c.maxLocals L → va_P D vwCl (mw s.heap.size cs shC h) H → va_P D vwCl (mw (s.heap.size + 75) cs shM k) H → va_S (fun q => s.heap.size ≤ q) s.heap H locs →
    W p l e room_1 s m #[Value.ref b] below meth c H locs 97 1096 (lw_Z below #[Value.ref b] s) (F0 m pc ls st)
section GLR
variable {Y : Yx} {pc : Nat} {L : List (Option Value)} {st : List Value} {h k : Hp}
theorem l_iconst (C : OL Y) {i : Int} {v : Int32} (hd : decode code pc = .ok (.iconst i, 1)) (hv : Int32.ofInt i = v) (q : GL Y (pc + 1) L (.int v :: st) h k) : GL Y pc L (st) h k := by
  obtain ⟨p, l, e, s, m, below, meth, c, b, n, xs, D, cs⟩ := Y
  exact fun ls H locs hl hP hM hS => lv_iconst C.1.1 C.1.2.1 hd hv (q ls H locs hl hP hM hS)
theorem l_bipush (C : OL Y) {i : Int} {v : Int32} (hd : decode code pc = .ok (.bipush i, 2)) (hv : (Int8.ofInt i).toInt32 = v) (q : GL Y (pc + 2) L (.int v :: st) h k) : GL Y pc L (st) h k := by
  obtain ⟨p, l, e, s, m, below, meth, c, b, n, xs, D, cs⟩ := Y
  exact fun ls H locs hl hP hM hS => lv_bipush C.1.1 C.1.2.1 hd hv (q ls H locs hl hP hM hS)
theorem l_iload_n (C : OL Y) {kf : Fin 4} {i : Nat} {x : Int32} (hd : decode code pc = .ok (.iload_n kf, 1)) (hi : (kf : Nat) = i) (hg : L[i]? = some (some (.int x))) (q : GL Y (pc + 1) L (.int x :: st) h k) : GL Y pc L (st) h k := by
  obtain ⟨p, l, e, s, m, below, meth, c, b, n, xs, D, cs⟩ := Y
  exact fun ls H locs hl hP hM hS => lv_iload_n C.1.1 C.1.2.1 hd hi (hl.2.2 i _ hg) (q ls H locs hl hP hM hS)
theorem l_aload_n (C : OL Y) {kf : Fin 4} {i : Nat} {x : Nat} (hd : decode code pc = .ok (.aload_n kf, 1)) (hi : (kf : Nat) = i) (hg : L[i]? = some (some (.ref x))) (q : GL Y (pc + 1) L (.ref x :: st) h k) : GL Y pc L (st) h k := by
  obtain ⟨p, l, e, s, m, below, meth, c, b, n, xs, D, cs⟩ := Y
  exact fun ls H locs hl hP hM hS => lv_aload_n C.1.1 C.1.2.1 hd hi (hl.2.2 i _ hg) (q ls H locs hl hP hM hS)
theorem l_iadd (C : OL Y) {x y : Int32} (hd : decode code pc = .ok (.iadd, 1)) (q : GL Y (pc + 1) L (.int (x + y) :: st) h k) : GL Y pc L (.int y :: .int x :: st) h k := by
  obtain ⟨p, l, e, s, m, below, meth, c, b, n, xs, D, cs⟩ := Y
  exact fun ls H locs hl hP hM hS => lv_iadd C.1.1 C.1.2.1 hd (q ls H locs hl hP hM hS)
theorem l_isub (C : OL Y) {x y : Int32} (hd : decode code pc = .ok (.isub, 1)) (q : GL Y (pc + 1) L (.int (x - y) :: st) h k) : GL Y pc L (.int y :: .int x :: st) h k := by
  obtain ⟨p, l, e, s, m, below, meth, c, b, n, xs, D, cs⟩ := Y
  exact fun ls H locs hl hP hM hS => lv_isub C.1.1 C.1.2.1 hd (q ls H locs hl hP hM hS)
theorem l_iand (C : OL Y) {x y : Int32} (hd : decode code pc = .ok (.iand, 1)) (q : GL Y (pc + 1) L (.int (x &&& y) :: st) h k) : GL Y pc L (.int y :: .int x :: st) h k := by
  obtain ⟨p, l, e, s, m, below, meth, c, b, n, xs, D, cs⟩ := Y
  exact fun ls H locs hl hP hM hS => lv_iand C.1.1 C.1.2.1 hd (q ls H locs hl hP hM hS)
theorem l_lcmp (C : OL Y) {x : Int64} (hd : decode code pc = .ok (.lcmp, 1)) (q : GL Y (pc + 1) L (.int 0 :: st) h k) : GL Y pc L (.long x :: .long x :: st) h k := by
  obtain ⟨p, l, e, s, m, below, meth, c, b, n, xs, D, cs⟩ := Y
  exact fun ls H locs hl hP hM hS => W.lcmp C.1.1 C.1.2.1 hd (by rw [show lg_cmp x x = 0 by simp [lg_cmp]]; exact (q ls H locs hl hP hM hS))
theorem l_iinc (C : OL Y) {i : Nat} {z : Int} {x v : Int32} (L' : List (Option Value)) (hd : decode code pc = .ok (.iinc i z, 3)) (hg : L[i]? = some (some (.int x))) (hv : x + Int32.ofInt z = v) (hn : i < 4) (hno : noL L i = true) (hL : L.set i (some (.int v)) = L') (q : GL Y (pc + 3) L' st h k) : GL Y pc L st h k := by
  obtain ⟨p, l, e, s, m, below, meth, c, b, n, xs, D, cs⟩ := Y
  subst hv
  intro ls H locs hl hP hM hS
  obtain ⟨j, hj⟩ := List.getElem?_of_mem (lz_mem.mpr hg)
  exact lv_iinc C.1.1 C.1.2.1 hd hl.to hj rfl (by rw [C.1.2.2.2.1]; exact hn) rfl (fun ls hl2 => q ls H locs (hasL.st1 hl2 hno hL) hP hM hS)
theorem l_goto (C : OL Y) {off : Int} (tgt : Nat) (hd : decode code pc = .ok (.goto off, 3)) (ht : (pc : Int) + off = (tgt : Int)) (q : GL Y tgt L st h k) : GL Y pc L st h k := by
  obtain ⟨p, l, e, s, m, below, meth, c, b, n, xs, D, cs⟩ := Y
  exact fun ls H locs hl hP hM hS => lv_goto C.1.1 C.1.2.1 hd ht (q ls H locs hl hP hM hS)
theorem l_ieq (C : OL Y) {x : Int32} {off : Int} (tgt : Nat) (hd : decode code pc = .ok (.if_icmp .eq off, 3)) (ht : (pc : Int) + off = (tgt : Int)) (q : GL Y tgt L st h k) : GL Y pc L (.int x :: .int x :: st) h k := by
  obtain ⟨p, l, e, s, m, below, meth, c, b, n, xs, D, cs⟩ := Y
  exact fun ls H locs hl hP hM hS => lv_icmp_eq C.1.1 C.1.2.1 hd ht (fun _ => q ls H locs hl hP hM hS) (fun z => absurd rfl z)
theorem l_if0 (C : OL Y) {off : Int} (tgt : Nat) (hd : decode code pc = .ok (.ifCond .eq off, 3)) (ht : (pc : Int) + off = (tgt : Int)) (q : GL Y tgt L st h k) : GL Y pc L (.int 0 :: st) h k := by
  obtain ⟨p, l, e, s, m, below, meth, c, b, n, xs, D, cs⟩ := Y
  exact fun ls H locs hl hP hM hS => lv_if_eq C.1.1 C.1.2.1 hd ht (fun _ => q ls H locs hl hP hM hS) (fun z => absurd rfl z)
theorem l_igt (C : OL Y) {x y : Int32} {off : Int} (tgt : Nat) (hd : decode code pc = .ok (.if_icmp .gt off, 3)) (ht : (pc : Int) + off = (tgt : Int)) (q1 : y < x → GL Y tgt L st h k) (q2 : ¬ y < x → GL Y (pc + 3) L st h k) : GL Y pc L (.int y :: .int x :: st) h k := by
  obtain ⟨p, l, e, s, m, below, meth, c, b, n, xs, D, cs⟩ := Y
  exact fun ls H locs hl hP hM hS => lv_icmp_gt C.1.1 C.1.2.1 hd ht (fun z => q1 z ls H locs hl hP hM hS) (fun z => q2 z ls H locs hl hP hM hS)
theorem l_tsIn (C : OL Y) {dflt lo hi : Int} {offs : Array Int} {len : Nat} {x : Int32} {off : Int} (tgt : Nat) (hd : decode code pc = .ok (.tableswitch dflt lo hi offs, len)) (h1 : ¬ x.toInt < lo) (h2 : ¬ hi < x.toInt) (ho : offs[(x.toInt - lo).toNat]? = some off) (ht : (pc : Int) + off = (tgt : Int)) (q : GL Y tgt L st h k) : GL Y pc L (.int x :: st) h k := by
  obtain ⟨p, l, e, s, m, below, meth, c, b, n, xs, D, cs⟩ := Y
  exact fun ls H locs hl hP hM hS => lv_tableIn C.1.1 C.1.2.1 hd h1 h2 ho ht (q ls H locs hl hP hM hS)
theorem l_tsOut (C : OL Y) {dflt lo hi : Int} {offs : Array Int} {len : Nat} {x : Int32} (tgt : Nat) (hd : decode code pc = .ok (.tableswitch dflt lo hi offs, len)) (hx : x.toInt < lo ∨ hi < x.toInt) (ht : (pc : Int) + dflt = (tgt : Int)) (q : GL Y tgt L st h k) : GL Y pc L (.int x :: st) h k := by
  obtain ⟨p, l, e, s, m, below, meth, c, b, n, xs, D, cs⟩ := Y
  exact fun ls H locs hl hP hM hS => lv_tableOut C.1.1 C.1.2.1 hd hx ht (q ls H locs hl hP hM hS)
theorem l_sld (C : OL Y) {i : Int32} (hi : vp_in i (yn Y)) (hd : decode code pc = .ok (.iaload, 1)) (q : GL Y (pc + 1) L (.int (yx Y i.toNatClampNeg) :: st) h k) : GL Y pc L (.int i :: .ref (yb Y) :: st) h k := by
  obtain ⟨p, l, e, s, m, below, meth, c, b, n, xs, D, cs⟩ := Y
  exact fun ls H locs hl hP hM hS => va_sld C.1.1 C.1.2.1 C.1.2.2.2.2.2.2.1 C.1.2.2.2.2.2.2.2.1 (Nat.not_le.mpr C.1.2.2.2.2.2.2.2.1) hS hi hd (q ls H locs hl hP hM hS)
theorem l_slen (C : OL Y) (hd : decode code pc = .ok (.arraylength, 1)) (q : GL Y (pc + 1) L (.int (nI (yn Y)) :: st) h k) : GL Y pc L (.ref (yb Y) :: st) h k := by
  obtain ⟨p, l, e, s, m, below, meth, c, b, n, xs, D, cs⟩ := Y
  exact fun ls H locs hl hP hM hS => va_slen C.1.1 C.1.2.1 C.1.2.2.2.2.2.2.1 C.1.2.2.2.2.2.2.2.1 (Nat.not_le.mpr C.1.2.2.2.2.2.2.2.1) hS hd (q ls H locs hl hP hM hS)
theorem l_ret (C : OL Y) (hd : decode code pc = .ok (.ireturn, 1)) : GL Y pc L [.int 1] h k := by
  obtain ⟨p, l, e, s, m, below, meth, c, b, n, xs, D, cs⟩ := Y
  intro ls H locs hl hP hM hS
  refine va_forget (fun q hq => hS.2.2 q hq) ?_
  refine W.widen (k := 600000) (n := 7302250) (by decide) (by decide) ?_
  exact lw_ret C.1.1 C.1.2.1 C.1.2.2.1 C.1.2.2.2.2.2.2.2.2.1 hd
theorem l_run {β : Type} {valc : β → Option Value} {st0 rest : List Value} {av : Array Value} {p : Program} {l : Launch} {e : Env} {s : State} {m : MethodId} {below : List Frame} {meth : Method} {c : Code} {b n : Nat} {xs : Nat → Int32} {D : va_G} {cs : Cs} (B2 : Nat) (sh2 : Sh) {h2 : Hp} {r : β} {mB : Nat} {msh : Sh} {mk : Hp}
    (hB : s.heap.size ≤ B2) (hoff : ∀ q, AA mB msh.length q → ¬ AA B2 sh2.length q)
    (hr : ∀ (ls : Array Slot) (H : Heap) (locs : List Loc), hasL ls c.maxLocals L → va_P D vwCl (mw s.heap.size cs shC h) H → va_P D vwCl (mw (s.heap.size + 75) cs shM k) H → va_S (fun q => s.heap.size ≤ q) s.heap H locs → va_P D vwCl (mw mB cs msh mk) H ∧ va_Run p l e room_1 s m #[Value.ref b] below meth c H locs 97 1096 0 0 (F0 m pc ls st0) rest (Qm (l, D, cs, B2) sh2 (valc r) h2 av) (AA B2 sh2.length))
    (q : ∀ (ls : Array Slot) (H : Heap) (locs : List Loc), hasL ls c.maxLocals L → va_P D vwCl (mw B2 cs sh2 h2) H → va_P D vwCl (mw mB cs msh mk) H → va_S (fun q => s.heap.size ≤ q) s.heap H locs → W p l e room_1 s m #[Value.ref b] below meth c H locs 97 1096 (lw_Z below #[Value.ref b] s) (F0 m (pc + 3) ls ((valc r).toList ++ rest))) : GL (p, l, e, s, m, below, meth, c, b, n, xs, D, cs) pc L st0 h k := by
  intro ls H locs hl hP hM hS T hT Xs
  obtain ⟨hMk, hrun⟩ := hr ls H locs hl hP hM hS
  obtain ⟨v, st₀, t, T', Ll, h0, X', hL, f1, f2, ⟨⟨hv, hP1⟩, hz, hk⟩, stp⟩ := hrun T hT Xs
  cases hv
  rw [h0] at hz hk
  obtain ⟨t2, a1, b1⟩ := q ls T'.heap (locs ++ Ll) hl (by rw [f1]; exact hP1) (by
      rw [f1]
      intro i x hx
      have h9 := hMk i x hx
      exact h9.kept (hk x.1 h9.lt (hoff x.1 (mw_D.2 i x hx))))
    ⟨Nat.le_trans hS.1 (by rw [f1]; exact hz), fun y q1 q2 => by
      rw [f1, hk y (Nat.lt_of_lt_of_le q1 hS.1) (fun z => q2 (Nat.le_trans hB z.1))]
      exact hS.2.1 y q1 q2, fun y hy => by
        rcases List.mem_append.mp hy with z | z
        · exact hS.2.2 y z
        · exact Nat.le_trans hB (hL y z).1⟩ T' rfl X'
  exact ⟨t2, stp t2 a1, b1⟩
theorem lB {s : State} {args : Array Value} {idx : Nat} {y : MethodName} {cy : ByteArray} {nLy ty n : Nat} {ry : Option FieldType} (hts : ∀ w ∈ AW, w.before args s = true) (f : CF R_law idx y cy nLy ry n) (ht : ty ≤ 60) (hn : nLy ≤ 40) : CallB room_1 s args R_law idx y cy nLy ry (Cond.code y cy nLy ry :: AW) (rmL ty) 0 0 n :=
  callB_of n hts (cf_good f.1) rfl rfl rfl (hts _ f.2.1) (hts _ f.2.2.1) f.2.2.2 ⟨by show ty + 1 ≤ 2048; omega, by show 8 + (nLy + 11) + 64 * ty ≤ 84000; omega⟩
theorem l_callX {β : Type} {valc : β → Option Value} (As rest : List Value) {idx : Nat} {y : MethodName} {cy : ByteArray} {nLy ty nn : Nat} {ry : Option FieldType} {st0 : List Value} {h2 : Hp} {r : β} (C : OL Y) (f : CF R_law idx y cy nLy ry nn) (fv : CV y 6) (hM : ∀ E : Ev, Ctr E shC y cy nLy ry ty (.ref (E.2.2.2 + 0) :: As) h (valc r) h2) (ht : ty ≤ 60) (hn : nLy ≤ 40) (hlen : As.length = nn) (hst : st0 = As.reverse ++ .ref (yB Y + 0) :: rest) (hs8 : (rest.map fun v => v.category).sum ≤ 8) (hd : decode code pc = .ok (.invokevirtual idx, 3))
    (q : GL Y (pc + 3) L ((valc r).toList ++ rest) h2 k) : GL Y pc L st0 h k := by
  obtain ⟨p, l, e, s, m, below, meth, c, b, n, xs, D, cs⟩ := Y
  refine l_run (valc := valc) (r := r) (rest := rest) (av := (.ref (s.heap.size + 0) :: As).toArray) (mB := s.heap.size + 75) (msh := shM) (mk := k) s.heap.size shC (Nat.le_refl _) (fun x z1 z2 => ?_) (fun ls H locs hl hP hM2 hS => ⟨hM2, ?_⟩) q
  · have h1 := z1.1
    have h2 := z2.2
    have h3 : shC.length = 75 := rfl
    omega
  obtain ⟨f1, f2, T, N, f3⟩ := fv
  exact va_runV ⟨C.1.1, C.1.2.1, rfl, C.1.2.2.2.2.1, C.2.2.2⟩ (hM (l, D, cs, s.heap.size)) ⟨lB C.2.2.2 f ht hn, C.2.2.2 _ f1, C.2.2.2 _ f2⟩
    ⟨fun a U g mk z => ⟨z.1, z.2.1, va_K.moved (u := U) (U := U.calling g mk a) (Vm.Alike.refl U.vm) z.2.2⟩, va_recv C.2.2.1 hP f3 (mw_get (k := 0) (x := (0, 6)) rfl), fun U hU hW => ⟨rfl, by rw [hU]; exact hP, va_K.moved hW.alike C.2.2.1⟩⟩ rfl hlen hl.1 hst (lv_room hs8) hd ⟨Nat.le_of_ble_eq_true rfl, Nat.le_of_ble_eq_true rfl⟩
theorem l_callM {β : Type} {valc : β → Option Value} (As rest : List Value) {idx : Nat} {y : MethodName} {cy : ByteArray} {nLy ty nn : Nat} {ry : Option FieldType} {st0 : List Value} {k2 : Hp} {r : β} (C : OL Y) (f : CF R_law idx y cy nLy ry nn) (fv : CV y 7) (hM : ∀ E : Ev, Ctr E shM y cy nLy ry ty (.ref (E.2.2.2 + 0) :: As) k (valc r) k2) (ht : ty ≤ 60) (hn : nLy ≤ 40) (hlen : As.length = nn) (hst : st0 = As.reverse ++ .ref (yB Y + 75 + 0) :: rest) (hs8 : (rest.map fun v => v.category).sum ≤ 8) (hd : decode code pc = .ok (.invokevirtual idx, 3))
    (q : GL Y (pc + 3) L ((valc r).toList ++ rest) h k2) : GL Y pc L st0 h k := by
  obtain ⟨p, l, e, s, m, below, meth, c, b, n, xs, D, cs⟩ := Y
  refine l_run (valc := valc) (r := r) (rest := rest) (av := (.ref (s.heap.size + 75 + 0) :: As).toArray) (mB := s.heap.size) (msh := shC) (mk := h) (s.heap.size + 75) shM (Nat.le_add_right _ _) (fun x z1 z2 => ?_) (fun ls H locs hl hP hM2 hS => ⟨hP, ?_⟩) (fun ls H locs hl hP hM2 hS => q ls H locs hl hM2 hP hS)
  · have h1 := z1.2
    have h2 := z2.1
    have h3 : shC.length = 75 := rfl
    omega
  obtain ⟨f1, f2, T, N, f3⟩ := fv
  exact va_runV ⟨C.1.1, C.1.2.1, rfl, C.1.2.2.2.2.1, C.2.2.2⟩ (hM (l, D, cs, s.heap.size + 75)) ⟨lB C.2.2.2 f ht hn, C.2.2.2 _ f1, C.2.2.2 _ f2⟩
    ⟨fun a U g mk z => ⟨z.1, z.2.1, va_K.moved (u := U) (U := U.calling g mk a) (Vm.Alike.refl U.vm) z.2.2⟩, va_recv C.2.2.1 hM2 f3 (mw_get (k := 0) (x := (0, 7)) rfl), fun U hU hW => ⟨rfl, by rw [hU]; exact hM2, va_K.moved hW.alike C.2.2.1⟩⟩ rfl hlen hl.1 hst (lv_room hs8) hd ⟨Nat.le_of_ble_eq_true rfl, Nat.le_of_ble_eq_true rfl⟩
end GLR
/-- one step of both: equal answers, and the invariant goes on -/
def SP {β : Type} (Inv : Hp → Hp → Prop) (Fx Fm : Hp → Option (β × Hp)) : Prop := ∀ h k, Inv h k → ∃ r h' k', Fx h = some (r, h') ∧ Fm k = some (r, k') ∧ Inv h' k'
set_option maxRecDepth 20000 in
theorem law_w0 : Cond.code yX6_dairy cX6_dairy 9 (some .int) ∈ AW := aw_t2 (i := 6) (rfl) rfl
set_option maxRecDepth 20000 in
theorem law_w1 : Cond.initialized RX6 ∈ AW := aw_t1 (i := 1) (by decide +kernel) rfl
set_option maxRecDepth 20000 in
theorem law_w2 : Cond.methodLink RL 13 yX6_dairy ∈ AW := aw_t2 (i := 3) (by decide +kernel) rfl
set_option maxRecDepth 20000 in
theorem law_w3 : Cond.code yX7_dairy cX7_dairy 7 (some .int) ∈ AW := aw_t3 (i := 224) (rfl) rfl
set_option maxRecDepth 20000 in
theorem law_w4 : Cond.initialized RX7 ∈ AW := aw_t1 (i := 8) (by decide +kernel) rfl
set_option maxRecDepth 20000 in
theorem law_w5 : Cond.methodLink RL 17 yX7_dairy ∈ AW := aw_t3 (i := 221) (by decide +kernel) rfl
set_option maxRecDepth 20000 in
theorem law_w6 : Cond.code yX6_ofCheese cX6_ofCheese 3 (some .int) ∈ AW := aw_t2 (i := 69) (rfl) rfl
set_option maxRecDepth 20000 in
theorem law_w7 : Cond.methodLink RL 18 yX6_ofCheese ∈ AW := aw_t2 (i := 66) (by decide +kernel) rfl
set_option maxRecDepth 20000 in
theorem law_w8 : Cond.code yX7_ofCheese cX7_ofCheese 3 (some .int) ∈ AW := aw_t4 (i := 29) (rfl) rfl
set_option maxRecDepth 20000 in
theorem law_w9 : Cond.methodLink RL 22 yX7_ofCheese ∈ AW := aw_t4 (i := 26) (by decide +kernel) rfl
set_option maxRecDepth 20000 in
theorem law_w10 : Cond.code yX6_ofTalk cX6_ofTalk 3 (some .int) ∈ AW := aw_t2 (i := 77) (rfl) rfl
set_option maxRecDepth 20000 in
theorem law_w11 : Cond.methodLink RL 23 yX6_ofTalk ∈ AW := aw_t2 (i := 74) (by decide +kernel) rfl
set_option maxRecDepth 20000 in
theorem law_w12 : Cond.code yX7_ofTalk cX7_ofTalk 3 (some .int) ∈ AW := aw_t4 (i := 37) (rfl) rfl
set_option maxRecDepth 20000 in
theorem law_w13 : Cond.methodLink RL 26 yX7_ofTalk ∈ AW := aw_t4 (i := 34) (by decide +kernel) rfl
set_option maxRecDepth 20000 in
theorem law_w14 : Cond.code yX6_move cX6_move 5 (some .int) ∈ AW := aw_t2 (i := 85) (rfl) rfl
set_option maxRecDepth 20000 in
theorem law_w15 : Cond.methodLink RL 27 yX6_move ∈ AW := aw_t2 (i := 82) (by decide +kernel) rfl
set_option maxRecDepth 20000 in
theorem law_w16 : Cond.code yX7_move cX7_move 4 (some .int) ∈ AW := aw_t4 (i := 45) (rfl) rfl
set_option maxRecDepth 20000 in
theorem law_w17 : Cond.methodLink RL 31 yX7_move ∈ AW := aw_t4 (i := 42) (by decide +kernel) rfl
set_option maxRecDepth 20000 in
theorem law_w18 : Cond.code yX6_undo cX6_undo 3 (some .int) ∈ AW := aw_t2 (i := 97) (rfl) rfl
set_option maxRecDepth 20000 in
theorem law_w19 : Cond.methodLink RL 32 yX6_undo ∈ AW := aw_t2 (i := 94) (by decide +kernel) rfl
set_option maxRecDepth 20000 in
theorem law_w20 : Cond.code yX7_undo cX7_undo 2 (some .int) ∈ AW := aw_t4 (i := 56) (rfl) rfl
set_option maxRecDepth 20000 in
theorem law_w21 : Cond.methodLink RL 36 yX7_undo ∈ AW := aw_t4 (i := 53) (by decide +kernel) rfl
set_option maxRecDepth 20000 in
theorem law_w22 : Cond.code yX6_wall cX6_wall 4 (some .int) ∈ AW := aw_t2 (i := 105) (rfl) rfl
set_option maxRecDepth 20000 in
theorem law_w23 : Cond.methodLink RL 37 yX6_wall ∈ AW := aw_t2 (i := 102) (by decide +kernel) rfl
set_option maxRecDepth 20000 in
theorem law_w24 : Cond.code yX7_wall cX7_wall 4 (some .int) ∈ AW := aw_t4 (i := 60) (rfl) rfl
set_option maxRecDepth 20000 in
theorem law_w25 : Cond.methodLink RL 40 yX7_wall ∈ AW := aw_t4 (i := 57) (by decide +kernel) rfl
set_option maxRecDepth 20000 in
theorem law_w26 : Cond.code yX6_where cX6_where 3 (some .int) ∈ AW := aw_t2 (i := 109) (rfl) rfl
set_option maxRecDepth 20000 in
theorem law_w27 : Cond.methodLink RL 41 yX6_where ∈ AW := aw_t2 (i := 106) (by decide +kernel) rfl
set_option maxRecDepth 20000 in
theorem law_w28 : Cond.code yX7_where cX7_where 3 (some .int) ∈ AW := aw_t4 (i := 64) (rfl) rfl
set_option maxRecDepth 20000 in
theorem law_w29 : Cond.methodLink RL 44 yX7_where ∈ AW := aw_t4 (i := 61) (by decide +kernel) rfl
set_option maxRecDepth 20000 in
theorem law_w30 : Cond.code yX6_heard cX6_heard 2 (some .int) ∈ AW := aw_t2 (i := 117) (rfl) rfl
set_option maxRecDepth 20000 in
theorem law_w31 : Cond.methodLink RL 45 yX6_heard ∈ AW := aw_t2 (i := 114) (by decide +kernel) rfl
set_option maxRecDepth 20000 in
theorem law_w32 : Cond.code yX7_heard cX7_heard 2 (some .int) ∈ AW := aw_t4 (i := 72) (rfl) rfl
set_option maxRecDepth 20000 in
theorem law_w33 : Cond.methodLink RL 48 yX7_heard ∈ AW := aw_t4 (i := 69) (by decide +kernel) rfl
set_option maxRecDepth 20000 in
theorem law_w34 : Cond.code yX6_layer cX6_layer 3 (some .int) ∈ AW := aw_t2 (i := 136) (rfl) rfl
set_option maxRecDepth 20000 in
theorem law_w35 : Cond.methodLink RL 49 yX6_layer ∈ AW := aw_t2 (i := 133) (by decide +kernel) rfl
set_option maxRecDepth 20000 in
theorem law_w36 : Cond.code yX7_layer cX7_layer 3 (some .int) ∈ AW := aw_t4 (i := 88) (rfl) rfl
set_option maxRecDepth 20000 in
theorem law_w37 : Cond.methodLink RL 52 yX7_layer ∈ AW := aw_t4 (i := 85) (by decide +kernel) rfl
set_option maxRecDepth 20000 in
theorem law_w38 : Cond.code yX6_deep cX6_deep 3 (some .int) ∈ AW := aw_t2 (i := 144) (rfl) rfl
set_option maxRecDepth 20000 in
theorem law_w39 : Cond.methodLink RL 53 yX6_deep ∈ AW := aw_t2 (i := 141) (by decide +kernel) rfl
set_option maxRecDepth 20000 in
theorem law_w40 : Cond.code yX7_deep cX7_deep 5 (some .int) ∈ AW := aw_t4 (i := 96) (rfl) rfl
set_option maxRecDepth 20000 in
theorem law_w41 : Cond.methodLink RL 56 yX7_deep ∈ AW := aw_t4 (i := 93) (by decide +kernel) rfl
set_option maxRecDepth 20000 in
theorem law_w42 : Cond.code yX6_cuts cX6_cuts 8 (some .int) ∈ AW := aw_t2 (i := 155) (rfl) rfl
set_option maxRecDepth 20000 in
theorem law_w43 : Cond.methodLink RL 57 yX6_cuts ∈ AW := aw_t2 (i := 152) (by decide +kernel) rfl
set_option maxRecDepth 20000 in
theorem law_w44 : Cond.code yX7_cuts cX7_cuts 12 (some .int) ∈ AW := aw_t4 (i := 106) (rfl) rfl
set_option maxRecDepth 20000 in
theorem law_w45 : Cond.methodLink RL 61 yX7_cuts ∈ AW := aw_t4 (i := 103) (by decide +kernel) rfl
set_option maxRecDepth 20000 in
theorem law_w46 : Cond.code yX6_spare cX6_spare 4 (some .int) ∈ AW := aw_t2 (i := 171) (rfl) rfl
set_option maxRecDepth 20000 in
theorem law_w47 : Cond.methodLink RL 62 yX6_spare ∈ AW := aw_t2 (i := 168) (by decide +kernel) rfl
set_option maxRecDepth 20000 in
theorem law_w48 : Cond.code yX7_spare cX7_spare 5 (some .int) ∈ AW := aw_t4 (i := 114) (rfl) rfl
set_option maxRecDepth 20000 in
theorem law_w49 : Cond.methodLink RL 65 yX7_spare ∈ AW := aw_t4 (i := 111) (by decide +kernel) rfl
set_option maxRecDepth 20000 in
theorem law_w50 : Cond.code yX6_shelve cX6_shelve 2 (some .int) ∈ AW := aw_t2 (i := 201) (rfl) rfl
set_option maxRecDepth 20000 in
theorem law_w51 : Cond.methodLink RL 66 yX6_shelve ∈ AW := aw_t2 (i := 198) (by decide +kernel) rfl
set_option maxRecDepth 20000 in
theorem law_w52 : Cond.code yX7_shelve cX7_shelve 3 (some .int) ∈ AW := aw_t4 (i := 138) (rfl) rfl
set_option maxRecDepth 20000 in
theorem law_w53 : Cond.methodLink RL 69 yX7_shelve ∈ AW := aw_t4 (i := 135) (by decide +kernel) rfl
set_option maxRecDepth 20000 in
theorem law_w54 : Cond.code yX6_common cX6_common 3 (some .int) ∈ AW := aw_t2 (i := 221) (rfl) rfl
set_option maxRecDepth 20000 in
theorem law_w55 : Cond.methodLink RL 70 yX6_common ∈ AW := aw_t2 (i := 218) (by decide +kernel) rfl
set_option maxRecDepth 20000 in
theorem law_w56 : Cond.code yX7_common cX7_common 3 (some .int) ∈ AW := aw_t4 (i := 150) (rfl) rfl
set_option maxRecDepth 20000 in
theorem law_w57 : Cond.methodLink RL 74 yX7_common ∈ AW := aw_t4 (i := 147) (by decide +kernel) rfl
set_option maxRecDepth 20000 in
theorem law_w58 : Cond.code yX6_alone cX6_alone 4 (some .int) ∈ AW := aw_t2 (i := 226) (rfl) rfl
set_option maxRecDepth 20000 in
theorem law_w59 : Cond.methodLink RL 75 yX6_alone ∈ AW := aw_t2 (i := 223) (by decide +kernel) rfl
set_option maxRecDepth 20000 in
theorem law_w60 : Cond.code yX7_alone cX7_alone 4 (some .int) ∈ AW := aw_t4 (i := 154) (rfl) rfl
set_option maxRecDepth 20000 in
theorem law_w61 : Cond.methodLink RL 78 yX7_alone ∈ AW := aw_t4 (i := 151) (by decide +kernel) rfl
set_option maxRecDepth 20000 in
theorem law_w62 : Cond.code yX6_reading cX6_reading 4 (some .int) ∈ AW := aw_t2 (i := 230) (rfl) rfl
set_option maxRecDepth 20000 in
theorem law_w63 : Cond.methodLink RL 79 yX6_reading ∈ AW := aw_t2 (i := 227) (by decide +kernel) rfl
set_option maxRecDepth 20000 in
theorem law_w64 : Cond.code yX7_reading cX7_reading 4 (some .int) ∈ AW := aw_t4 (i := 158) (rfl) rfl
set_option maxRecDepth 20000 in
theorem law_w65 : Cond.methodLink RL 82 yX7_reading ∈ AW := aw_t4 (i := 155) (by decide +kernel) rfl
set_option maxRecDepth 20000 in
theorem law_w66 : Cond.code yX6_back cX6_back 2 (some .int) ∈ AW := aw_t2 (i := 234) (rfl) rfl
set_option maxRecDepth 20000 in
theorem law_w67 : Cond.methodLink RL 83 yX6_back ∈ AW := aw_t2 (i := 231) (by decide +kernel) rfl
set_option maxRecDepth 20000 in
theorem law_w68 : Cond.code yX7_back cX7_back 2 (some .int) ∈ AW := aw_t4 (i := 162) (rfl) rfl
set_option maxRecDepth 20000 in
theorem law_w69 : Cond.methodLink RL 86 yX7_back ∈ AW := aw_t4 (i := 159) (by decide +kernel) rfl
set_option maxRecDepth 20000 in
theorem law_w70 : Cond.code yX6_louds cX6_louds 2 (some .int) ∈ AW := aw_t2 (i := 238) (rfl) rfl
set_option maxRecDepth 20000 in
theorem law_w71 : Cond.methodLink RL 87 yX6_louds ∈ AW := aw_t2 (i := 235) (by decide +kernel) rfl
set_option maxRecDepth 20000 in
theorem law_w72 : Cond.code yX7_louds cX7_louds 5 (some .int) ∈ AW := aw_t4 (i := 166) (rfl) rfl
set_option maxRecDepth 20000 in
theorem law_w73 : Cond.methodLink RL 90 yX7_louds ∈ AW := aw_t4 (i := 163) (by decide +kernel) rfl
set_option maxRecDepth 20000 in
theorem law_w74 : Cond.code yX6_words cX6_words 2 (some .int) ∈ AW := aw_t3 (i := 11) (rfl) rfl
set_option maxRecDepth 20000 in
theorem law_w75 : Cond.methodLink RL 91 yX6_words ∈ AW := aw_t3 (i := 8) (by decide +kernel) rfl
set_option maxRecDepth 20000 in
theorem law_w76 : Cond.code yX7_words cX7_words 5 (some .int) ∈ AW := aw_t4 (i := 174) (rfl) rfl
set_option maxRecDepth 20000 in
theorem law_w77 : Cond.methodLink RL 94 yX7_words ∈ AW := aw_t4 (i := 171) (by decide +kernel) rfl
set_option maxRecDepth 20000 in
theorem law_w78 : Cond.code yX6_kinds cX6_kinds 2 (some .int) ∈ AW := aw_t3 (i := 15) (rfl) rfl
set_option maxRecDepth 20000 in
theorem law_w79 : Cond.methodLink RL 95 yX6_kinds ∈ AW := aw_t3 (i := 12) (by decide +kernel) rfl
set_option maxRecDepth 20000 in
theorem law_w80 : Cond.code yX7_kinds cX7_kinds 5 (some .int) ∈ AW := aw_t4 (i := 178) (rfl) rfl
set_option maxRecDepth 20000 in
theorem law_w81 : Cond.methodLink RL 98 yX7_kinds ∈ AW := aw_t4 (i := 175) (by decide +kernel) rfl
set_option maxRecDepth 20000 in
theorem law_w82 : Cond.code yX6_lay cX6_lay 2 (some .int) ∈ AW := aw_t3 (i := 19) (rfl) rfl
set_option maxRecDepth 20000 in
theorem law_w83 : Cond.methodLink RL 99 yX6_lay ∈ AW := aw_t3 (i := 16) (by decide +kernel) rfl
set_option maxRecDepth 20000 in
theorem law_w84 : Cond.code yX7_lay cX7_lay 5 (some .int) ∈ AW := aw_t4 (i := 182) (rfl) rfl
set_option maxRecDepth 20000 in
theorem law_w85 : Cond.methodLink RL 102 yX7_lay ∈ AW := aw_t4 (i := 179) (by decide +kernel) rfl
set_option maxRecDepth 20000 in
theorem law_w86 : Cond.code yX6_odds cX6_odds 4 (some .long) ∈ AW := aw_t3 (i := 23) (rfl) rfl
set_option maxRecDepth 20000 in
theorem law_w87 : Cond.methodLink RL 103 yX6_odds ∈ AW := aw_t3 (i := 20) (by decide +kernel) rfl
set_option maxRecDepth 20000 in
theorem law_w88 : Cond.code yX7_odds cX7_odds 6 (some .long) ∈ AW := aw_t4 (i := 186) (rfl) rfl
set_option maxRecDepth 20000 in
theorem law_w89 : Cond.methodLink RL 107 yX7_odds ∈ AW := aw_t4 (i := 183) (by decide +kernel) rfl
set_option maxRecDepth 20000 in
theorem law_w90 : Cond.code yX6_sheet cX6_sheet 4 (some .int) ∈ AW := aw_t3 (i := 43) (rfl) rfl
set_option maxRecDepth 20000 in
theorem law_w91 : Cond.methodLink RL 108 yX6_sheet ∈ AW := aw_t3 (i := 40) (by decide +kernel) rfl
set_option maxRecDepth 20000 in
theorem law_w92 : Cond.code yX7_sheet cX7_sheet 5 (some .int) ∈ AW := aw_t4 (i := 194) (rfl) rfl
set_option maxRecDepth 20000 in
theorem law_w93 : Cond.methodLink RL 111 yX7_sheet ∈ AW := aw_t4 (i := 191) (by decide +kernel) rfl
set_option maxRecDepth 20000 in
theorem law_w94 : Cond.code yX6_lose cX6_lose 2 (some .int) ∈ AW := aw_t3 (i := 52) (rfl) rfl
set_option maxRecDepth 20000 in
theorem law_w95 : Cond.methodLink RL 112 yX6_lose ∈ AW := aw_t3 (i := 49) (by decide +kernel) rfl
set_option maxRecDepth 20000 in
theorem law_w96 : Cond.code yX7_lose cX7_lose 3 (some .int) ∈ AW := aw_t4 (i := 198) (rfl) rfl
set_option maxRecDepth 20000 in
theorem law_w97 : Cond.methodLink RL 115 yX7_lose ∈ AW := aw_t4 (i := 195) (by decide +kernel) rfl
set_option maxRecDepth 20000 in
theorem law_w98 : Cond.code yX6_put cX6_put 5 (some .int) ∈ AW := aw_t3 (i := 60) (rfl) rfl
set_option maxRecDepth 20000 in
theorem law_w99 : Cond.methodLink RL 116 yX6_put ∈ AW := aw_t3 (i := 57) (by decide +kernel) rfl
set_option maxRecDepth 20000 in
theorem law_w100 : Cond.code yX7_put cX7_put 4 (some .int) ∈ AW := aw_t4 (i := 202) (rfl) rfl
set_option maxRecDepth 20000 in
theorem law_w101 : Cond.methodLink RL 119 yX7_put ∈ AW := aw_t4 (i := 199) (by decide +kernel) rfl
set_option maxRecDepth 20000 in
theorem law_w102 : Cond.code yX6_cell cX6_cell 5 (some .long) ∈ AW := aw_t3 (i := 69) (rfl) rfl
set_option maxRecDepth 20000 in
theorem law_w103 : Cond.methodLink RL 120 yX6_cell ∈ AW := aw_t3 (i := 66) (by decide +kernel) rfl
set_option maxRecDepth 20000 in
theorem law_w104 : Cond.code yX7_cell cX7_cell 4 (some .long) ∈ AW := aw_t4 (i := 206) (rfl) rfl
set_option maxRecDepth 20000 in
theorem law_w105 : Cond.methodLink RL 123 yX7_cell ∈ AW := aw_t4 (i := 203) (by decide +kernel) rfl
set_option maxRecDepth 20000 in
theorem law_w106 : Cond.code yX6_copy cX6_copy 8 (some .int) ∈ AW := aw_t3 (i := 73) (rfl) rfl
set_option maxRecDepth 20000 in
theorem law_w107 : Cond.methodLink RL 124 yX6_copy ∈ AW := aw_t3 (i := 70) (by decide +kernel) rfl
set_option maxRecDepth 20000 in
theorem law_w108 : Cond.code yX7_copy cX7_copy 10 (some .int) ∈ AW := aw_t4 (i := 214) (rfl) rfl
set_option maxRecDepth 20000 in
theorem law_w109 : Cond.methodLink RL 127 yX7_copy ∈ AW := aw_t4 (i := 211) (by decide +kernel) rfl
set_option maxRecDepth 20000 in
theorem law_w110 : Cond.code yX6_tell cX6_tell 3 (some .int) ∈ AW := aw_t3 (i := 78) (rfl) rfl
set_option maxRecDepth 20000 in
theorem law_w111 : Cond.methodLink RL 128 yX6_tell ∈ AW := aw_t3 (i := 75) (by decide +kernel) rfl
set_option maxRecDepth 20000 in
theorem law_w112 : Cond.code yX7_tell cX7_tell 3 (some .int) ∈ AW := aw_t4 (i := 218) (rfl) rfl
set_option maxRecDepth 20000 in
theorem law_w113 : Cond.methodLink RL 131 yX7_tell ∈ AW := aw_t4 (i := 215) (by decide +kernel) rfl
set_option maxRecDepth 20000 in
theorem law_w114 : Cond.code yX6_tap cX6_tap 2 (some .int) ∈ AW := aw_t3 (i := 98) (rfl) rfl
set_option maxRecDepth 20000 in
theorem law_w115 : Cond.methodLink RL 132 yX6_tap ∈ AW := aw_t3 (i := 95) (by decide +kernel) rfl
set_option maxRecDepth 20000 in
theorem law_w116 : Cond.code yX7_tap cX7_tap 2 (some .int) ∈ AW := aw_t4 (i := 226) (rfl) rfl
set_option maxRecDepth 20000 in
theorem law_w117 : Cond.methodLink RL 135 yX7_tap ∈ AW := aw_t4 (i := 223) (by decide +kernel) rfl
set_option maxRecDepth 20000 in
theorem law_w118 : Cond.code yX6_as cX6_as 3 (some .int) ∈ AW := aw_t3 (i := 102) (rfl) rfl
set_option maxRecDepth 20000 in
theorem law_w119 : Cond.methodLink RL 136 yX6_as ∈ AW := aw_t3 (i := 99) (by decide +kernel) rfl
set_option maxRecDepth 20000 in
theorem law_w120 : Cond.code yX7_as cX7_as 3 (some .int) ∈ AW := aw_t4 (i := 230) (rfl) rfl
set_option maxRecDepth 20000 in
theorem law_w121 : Cond.methodLink RL 139 yX7_as ∈ AW := aw_t4 (i := 227) (by decide +kernel) rfl
set_option maxRecDepth 20000 in
theorem law_w122 : Cond.code yX6_trace cX6_trace 1 (some .int) ∈ AW := aw_t3 (i := 106) (rfl) rfl
set_option maxRecDepth 20000 in
theorem law_w123 : Cond.methodLink RL 140 yX6_trace ∈ AW := aw_t3 (i := 103) (by decide +kernel) rfl
set_option maxRecDepth 20000 in
theorem law_w124 : Cond.code yX7_trace cX7_trace 1 (some .int) ∈ AW := aw_t4 (i := 234) (rfl) rfl
set_option maxRecDepth 20000 in
theorem law_w125 : Cond.methodLink RL 143 yX7_trace ∈ AW := aw_t4 (i := 231) (by decide +kernel) rfl
set_option maxRecDepth 20000 in
theorem law_w126 : Cond.code yX6_fault cX6_fault 1 (some .int) ∈ AW := aw_t3 (i := 110) (rfl) rfl
set_option maxRecDepth 20000 in
theorem law_w127 : Cond.methodLink RL 144 yX6_fault ∈ AW := aw_t3 (i := 107) (by decide +kernel) rfl
set_option maxRecDepth 20000 in
theorem law_w128 : Cond.code yX7_fault cX7_fault 1 (some .int) ∈ AW := aw_t4 (i := 238) (rfl) rfl
set_option maxRecDepth 20000 in
theorem law_w129 : Cond.methodLink RL 147 yX7_fault ∈ AW := aw_t4 (i := 235) (by decide +kernel) rfl
set_option maxRecDepth 20000 in
theorem law_w130 : Cond.code yX6_many cX6_many 2 (some .int) ∈ AW := aw_t3 (i := 114) (rfl) rfl
set_option maxRecDepth 20000 in
theorem law_w131 : Cond.methodLink RL 148 yX6_many ∈ AW := aw_t3 (i := 111) (by decide +kernel) rfl
set_option maxRecDepth 20000 in
theorem law_w132 : Cond.code yX7_many cX7_many 2 (some .int) ∈ AW := aw_t5 (i := 2) (rfl) rfl
set_option maxRecDepth 20000 in
theorem law_w133 : Cond.methodLink RL 151 yX7_many ∈ AW := aw_t4 (i := 239) (by decide +kernel) rfl
set_option maxRecDepth 20000 in
theorem law_w134 : Cond.instanceMethod yX6_alone ∈ AW := aw_t2 (i := 224) (by decide +kernel) rfl
set_option maxRecDepth 20000 in
theorem law_w135 : Cond.selects RX6 yX6_alone yX6_alone ∈ AW := aw_t2 (i := 225) (by decide +kernel) rfl
set_option maxRecDepth 20000 in
theorem law_w136 : Cond.instanceMethod yX6_as ∈ AW := aw_t3 (i := 100) (by decide +kernel) rfl
set_option maxRecDepth 20000 in
theorem law_w137 : Cond.selects RX6 yX6_as yX6_as ∈ AW := aw_t3 (i := 101) (by decide +kernel) rfl
set_option maxRecDepth 20000 in
theorem law_w138 : Cond.instanceMethod yX6_back ∈ AW := aw_t2 (i := 232) (by decide +kernel) rfl
set_option maxRecDepth 20000 in
theorem law_w139 : Cond.selects RX6 yX6_back yX6_back ∈ AW := aw_t2 (i := 233) (by decide +kernel) rfl
set_option maxRecDepth 20000 in
theorem law_w140 : Cond.instanceMethod yX6_cell ∈ AW := aw_t3 (i := 67) (by decide +kernel) rfl
set_option maxRecDepth 20000 in
theorem law_w141 : Cond.selects RX6 yX6_cell yX6_cell ∈ AW := aw_t3 (i := 68) (by decide +kernel) rfl
set_option maxRecDepth 20000 in
theorem law_w142 : Cond.instanceMethod yX6_common ∈ AW := aw_t2 (i := 219) (by decide +kernel) rfl
set_option maxRecDepth 20000 in
theorem law_w143 : Cond.selects RX6 yX6_common yX6_common ∈ AW := aw_t2 (i := 220) (by decide +kernel) rfl
set_option maxRecDepth 20000 in
theorem law_w144 : Cond.instanceMethod yX6_copy ∈ AW := aw_t3 (i := 71) (by decide +kernel) rfl
set_option maxRecDepth 20000 in
theorem law_w145 : Cond.selects RX6 yX6_copy yX6_copy ∈ AW := aw_t3 (i := 72) (by decide +kernel) rfl
set_option maxRecDepth 20000 in
theorem law_w146 : Cond.instanceMethod yX6_cuts ∈ AW := aw_t2 (i := 153) (by decide +kernel) rfl
set_option maxRecDepth 20000 in
theorem law_w147 : Cond.selects RX6 yX6_cuts yX6_cuts ∈ AW := aw_t2 (i := 154) (by decide +kernel) rfl
set_option maxRecDepth 20000 in
theorem law_w148 : Cond.instanceMethod yX6_dairy ∈ AW := aw_t2 (i := 4) (by decide +kernel) rfl
set_option maxRecDepth 20000 in
theorem law_w149 : Cond.selects RX6 yX6_dairy yX6_dairy ∈ AW := aw_t2 (i := 5) (by decide +kernel) rfl
set_option maxRecDepth 20000 in
theorem law_w150 : Cond.instanceMethod yX6_deep ∈ AW := aw_t2 (i := 142) (by decide +kernel) rfl
set_option maxRecDepth 20000 in
theorem law_w151 : Cond.selects RX6 yX6_deep yX6_deep ∈ AW := aw_t2 (i := 143) (by decide +kernel) rfl
set_option maxRecDepth 20000 in
theorem law_w152 : Cond.instanceMethod yX6_fault ∈ AW := aw_t3 (i := 108) (by decide +kernel) rfl
set_option maxRecDepth 20000 in
theorem law_w153 : Cond.selects RX6 yX6_fault yX6_fault ∈ AW := aw_t3 (i := 109) (by decide +kernel) rfl
set_option maxRecDepth 20000 in
theorem law_w154 : Cond.instanceMethod yX6_heard ∈ AW := aw_t2 (i := 115) (by decide +kernel) rfl
set_option maxRecDepth 20000 in
theorem law_w155 : Cond.selects RX6 yX6_heard yX6_heard ∈ AW := aw_t2 (i := 116) (by decide +kernel) rfl
set_option maxRecDepth 20000 in
theorem law_w156 : Cond.instanceMethod yX6_kinds ∈ AW := aw_t3 (i := 13) (by decide +kernel) rfl
set_option maxRecDepth 20000 in
theorem law_w157 : Cond.selects RX6 yX6_kinds yX6_kinds ∈ AW := aw_t3 (i := 14) (by decide +kernel) rfl
set_option maxRecDepth 20000 in
theorem law_w158 : Cond.instanceMethod yX6_lay ∈ AW := aw_t3 (i := 17) (by decide +kernel) rfl
set_option maxRecDepth 20000 in
theorem law_w159 : Cond.selects RX6 yX6_lay yX6_lay ∈ AW := aw_t3 (i := 18) (by decide +kernel) rfl
set_option maxRecDepth 20000 in
theorem law_w160 : Cond.instanceMethod yX6_layer ∈ AW := aw_t2 (i := 134) (by decide +kernel) rfl
set_option maxRecDepth 20000 in
theorem law_w161 : Cond.selects RX6 yX6_layer yX6_layer ∈ AW := aw_t2 (i := 135) (by decide +kernel) rfl
set_option maxRecDepth 20000 in
theorem law_w162 : Cond.instanceMethod yX6_lose ∈ AW := aw_t3 (i := 50) (by decide +kernel) rfl
set_option maxRecDepth 20000 in
theorem law_w163 : Cond.selects RX6 yX6_lose yX6_lose ∈ AW := aw_t3 (i := 51) (by decide +kernel) rfl
set_option maxRecDepth 20000 in
theorem law_w164 : Cond.instanceMethod yX6_louds ∈ AW := aw_t2 (i := 236) (by decide +kernel) rfl
set_option maxRecDepth 20000 in
theorem law_w165 : Cond.selects RX6 yX6_louds yX6_louds ∈ AW := aw_t2 (i := 237) (by decide +kernel) rfl
set_option maxRecDepth 20000 in
theorem law_w166 : Cond.instanceMethod yX6_many ∈ AW := aw_t3 (i := 112) (by decide +kernel) rfl
set_option maxRecDepth 20000 in
theorem law_w167 : Cond.selects RX6 yX6_many yX6_many ∈ AW := aw_t3 (i := 113) (by decide +kernel) rfl
set_option maxRecDepth 20000 in
theorem law_w168 : Cond.instanceMethod yX6_move ∈ AW := aw_t2 (i := 83) (by decide +kernel) rfl
set_option maxRecDepth 20000 in
theorem law_w169 : Cond.selects RX6 yX6_move yX6_move ∈ AW := aw_t2 (i := 84) (by decide +kernel) rfl
set_option maxRecDepth 20000 in
theorem law_w170 : Cond.instanceMethod yX6_odds ∈ AW := aw_t3 (i := 21) (by decide +kernel) rfl
set_option maxRecDepth 20000 in
theorem law_w171 : Cond.selects RX6 yX6_odds yX6_odds ∈ AW := aw_t3 (i := 22) (by decide +kernel) rfl
set_option maxRecDepth 20000 in
theorem law_w172 : Cond.instanceMethod yX6_ofCheese ∈ AW := aw_t2 (i := 67) (by decide +kernel) rfl
set_option maxRecDepth 20000 in
theorem law_w173 : Cond.selects RX6 yX6_ofCheese yX6_ofCheese ∈ AW := aw_t2 (i := 68) (by decide +kernel) rfl
set_option maxRecDepth 20000 in
theorem law_w174 : Cond.instanceMethod yX6_ofTalk ∈ AW := aw_t2 (i := 75) (by decide +kernel) rfl
set_option maxRecDepth 20000 in
theorem law_w175 : Cond.selects RX6 yX6_ofTalk yX6_ofTalk ∈ AW := aw_t2 (i := 76) (by decide +kernel) rfl
set_option maxRecDepth 20000 in
theorem law_w176 : Cond.instanceMethod yX6_put ∈ AW := aw_t3 (i := 58) (by decide +kernel) rfl
set_option maxRecDepth 20000 in
theorem law_w177 : Cond.selects RX6 yX6_put yX6_put ∈ AW := aw_t3 (i := 59) (by decide +kernel) rfl
set_option maxRecDepth 20000 in
theorem law_w178 : Cond.instanceMethod yX6_reading ∈ AW := aw_t2 (i := 228) (by decide +kernel) rfl
set_option maxRecDepth 20000 in
theorem law_w179 : Cond.selects RX6 yX6_reading yX6_reading ∈ AW := aw_t2 (i := 229) (by decide +kernel) rfl
set_option maxRecDepth 20000 in
theorem law_w180 : Cond.instanceMethod yX6_sheet ∈ AW := aw_t3 (i := 41) (by decide +kernel) rfl
set_option maxRecDepth 20000 in
theorem law_w181 : Cond.selects RX6 yX6_sheet yX6_sheet ∈ AW := aw_t3 (i := 42) (by decide +kernel) rfl
set_option maxRecDepth 20000 in
theorem law_w182 : Cond.instanceMethod yX6_shelve ∈ AW := aw_t2 (i := 199) (by decide +kernel) rfl
set_option maxRecDepth 20000 in
theorem law_w183 : Cond.selects RX6 yX6_shelve yX6_shelve ∈ AW := aw_t2 (i := 200) (by decide +kernel) rfl
set_option maxRecDepth 20000 in
theorem law_w184 : Cond.instanceMethod yX6_spare ∈ AW := aw_t2 (i := 169) (by decide +kernel) rfl
set_option maxRecDepth 20000 in
theorem law_w185 : Cond.selects RX6 yX6_spare yX6_spare ∈ AW := aw_t2 (i := 170) (by decide +kernel) rfl
set_option maxRecDepth 20000 in
theorem law_w186 : Cond.instanceMethod yX6_tap ∈ AW := aw_t3 (i := 96) (by decide +kernel) rfl
set_option maxRecDepth 20000 in
theorem law_w187 : Cond.selects RX6 yX6_tap yX6_tap ∈ AW := aw_t3 (i := 97) (by decide +kernel) rfl
set_option maxRecDepth 20000 in
theorem law_w188 : Cond.instanceMethod yX6_tell ∈ AW := aw_t3 (i := 76) (by decide +kernel) rfl
set_option maxRecDepth 20000 in
theorem law_w189 : Cond.selects RX6 yX6_tell yX6_tell ∈ AW := aw_t3 (i := 77) (by decide +kernel) rfl
set_option maxRecDepth 20000 in
theorem law_w190 : Cond.instanceMethod yX6_trace ∈ AW := aw_t3 (i := 104) (by decide +kernel) rfl
set_option maxRecDepth 20000 in
theorem law_w191 : Cond.selects RX6 yX6_trace yX6_trace ∈ AW := aw_t3 (i := 105) (by decide +kernel) rfl
set_option maxRecDepth 20000 in
theorem law_w192 : Cond.instanceMethod yX6_undo ∈ AW := aw_t2 (i := 95) (by decide +kernel) rfl
set_option maxRecDepth 20000 in
theorem law_w193 : Cond.selects RX6 yX6_undo yX6_undo ∈ AW := aw_t2 (i := 96) (by decide +kernel) rfl
set_option maxRecDepth 20000 in
theorem law_w194 : Cond.instanceMethod yX6_wall ∈ AW := aw_t2 (i := 103) (by decide +kernel) rfl
set_option maxRecDepth 20000 in
theorem law_w195 : Cond.selects RX6 yX6_wall yX6_wall ∈ AW := aw_t2 (i := 104) (by decide +kernel) rfl
set_option maxRecDepth 20000 in
theorem law_w196 : Cond.instanceMethod yX6_where ∈ AW := aw_t2 (i := 107) (by decide +kernel) rfl
set_option maxRecDepth 20000 in
theorem law_w197 : Cond.selects RX6 yX6_where yX6_where ∈ AW := aw_t2 (i := 108) (by decide +kernel) rfl
set_option maxRecDepth 20000 in
theorem law_w198 : Cond.instanceMethod yX6_words ∈ AW := aw_t3 (i := 9) (by decide +kernel) rfl
set_option maxRecDepth 20000 in
theorem law_w199 : Cond.selects RX6 yX6_words yX6_words ∈ AW := aw_t3 (i := 10) (by decide +kernel) rfl
set_option maxRecDepth 20000 in
theorem law_w200 : Cond.instanceMethod yX7_alone ∈ AW := aw_t4 (i := 152) (by decide +kernel) rfl
set_option maxRecDepth 20000 in
theorem law_w201 : Cond.selects RX7 yX7_alone yX7_alone ∈ AW := aw_t4 (i := 153) (by decide +kernel) rfl
set_option maxRecDepth 20000 in
theorem law_w202 : Cond.instanceMethod yX7_as ∈ AW := aw_t4 (i := 228) (by decide +kernel) rfl
set_option maxRecDepth 20000 in
theorem law_w203 : Cond.selects RX7 yX7_as yX7_as ∈ AW := aw_t4 (i := 229) (by decide +kernel) rfl
set_option maxRecDepth 20000 in
theorem law_w204 : Cond.instanceMethod yX7_back ∈ AW := aw_t4 (i := 160) (by decide +kernel) rfl
set_option maxRecDepth 20000 in
theorem law_w205 : Cond.selects RX7 yX7_back yX7_back ∈ AW := aw_t4 (i := 161) (by decide +kernel) rfl
set_option maxRecDepth 20000 in
theorem law_w206 : Cond.instanceMethod yX7_cell ∈ AW := aw_t4 (i := 204) (by decide +kernel) rfl
set_option maxRecDepth 20000 in
theorem law_w207 : Cond.selects RX7 yX7_cell yX7_cell ∈ AW := aw_t4 (i := 205) (by decide +kernel) rfl
set_option maxRecDepth 20000 in
theorem law_w208 : Cond.instanceMethod yX7_common ∈ AW := aw_t4 (i := 148) (by decide +kernel) rfl
set_option maxRecDepth 20000 in
theorem law_w209 : Cond.selects RX7 yX7_common yX7_common ∈ AW := aw_t4 (i := 149) (by decide +kernel) rfl
set_option maxRecDepth 20000 in
theorem law_w210 : Cond.instanceMethod yX7_copy ∈ AW := aw_t4 (i := 212) (by decide +kernel) rfl
set_option maxRecDepth 20000 in
theorem law_w211 : Cond.selects RX7 yX7_copy yX7_copy ∈ AW := aw_t4 (i := 213) (by decide +kernel) rfl
set_option maxRecDepth 20000 in
theorem law_w212 : Cond.instanceMethod yX7_cuts ∈ AW := aw_t4 (i := 104) (by decide +kernel) rfl
set_option maxRecDepth 20000 in
theorem law_w213 : Cond.selects RX7 yX7_cuts yX7_cuts ∈ AW := aw_t4 (i := 105) (by decide +kernel) rfl
set_option maxRecDepth 20000 in
theorem law_w214 : Cond.instanceMethod yX7_dairy ∈ AW := aw_t3 (i := 222) (by decide +kernel) rfl
set_option maxRecDepth 20000 in
theorem law_w215 : Cond.selects RX7 yX7_dairy yX7_dairy ∈ AW := aw_t3 (i := 223) (by decide +kernel) rfl
set_option maxRecDepth 20000 in
theorem law_w216 : Cond.instanceMethod yX7_deep ∈ AW := aw_t4 (i := 94) (by decide +kernel) rfl
set_option maxRecDepth 20000 in
theorem law_w217 : Cond.selects RX7 yX7_deep yX7_deep ∈ AW := aw_t4 (i := 95) (by decide +kernel) rfl
set_option maxRecDepth 20000 in
theorem law_w218 : Cond.instanceMethod yX7_fault ∈ AW := aw_t4 (i := 236) (by decide +kernel) rfl
set_option maxRecDepth 20000 in
theorem law_w219 : Cond.selects RX7 yX7_fault yX7_fault ∈ AW := aw_t4 (i := 237) (by decide +kernel) rfl
set_option maxRecDepth 20000 in
theorem law_w220 : Cond.instanceMethod yX7_heard ∈ AW := aw_t4 (i := 70) (by decide +kernel) rfl
set_option maxRecDepth 20000 in
theorem law_w221 : Cond.selects RX7 yX7_heard yX7_heard ∈ AW := aw_t4 (i := 71) (by decide +kernel) rfl
set_option maxRecDepth 20000 in
theorem law_w222 : Cond.instanceMethod yX7_kinds ∈ AW := aw_t4 (i := 176) (by decide +kernel) rfl
set_option maxRecDepth 20000 in
theorem law_w223 : Cond.selects RX7 yX7_kinds yX7_kinds ∈ AW := aw_t4 (i := 177) (by decide +kernel) rfl
set_option maxRecDepth 20000 in
theorem law_w224 : Cond.instanceMethod yX7_lay ∈ AW := aw_t4 (i := 180) (by decide +kernel) rfl
set_option maxRecDepth 20000 in
theorem law_w225 : Cond.selects RX7 yX7_lay yX7_lay ∈ AW := aw_t4 (i := 181) (by decide +kernel) rfl
set_option maxRecDepth 20000 in
theorem law_w226 : Cond.instanceMethod yX7_layer ∈ AW := aw_t4 (i := 86) (by decide +kernel) rfl
set_option maxRecDepth 20000 in
theorem law_w227 : Cond.selects RX7 yX7_layer yX7_layer ∈ AW := aw_t4 (i := 87) (by decide +kernel) rfl
set_option maxRecDepth 20000 in
theorem law_w228 : Cond.instanceMethod yX7_lose ∈ AW := aw_t4 (i := 196) (by decide +kernel) rfl
set_option maxRecDepth 20000 in
theorem law_w229 : Cond.selects RX7 yX7_lose yX7_lose ∈ AW := aw_t4 (i := 197) (by decide +kernel) rfl
set_option maxRecDepth 20000 in
theorem law_w230 : Cond.instanceMethod yX7_louds ∈ AW := aw_t4 (i := 164) (by decide +kernel) rfl
set_option maxRecDepth 20000 in
theorem law_w231 : Cond.selects RX7 yX7_louds yX7_louds ∈ AW := aw_t4 (i := 165) (by decide +kernel) rfl
set_option maxRecDepth 20000 in
theorem law_w232 : Cond.instanceMethod yX7_many ∈ AW := aw_t5 (i := 0) (by decide +kernel) rfl
set_option maxRecDepth 20000 in
theorem law_w233 : Cond.selects RX7 yX7_many yX7_many ∈ AW := aw_t5 (i := 1) (by decide +kernel) rfl
set_option maxRecDepth 20000 in
theorem law_w234 : Cond.instanceMethod yX7_move ∈ AW := aw_t4 (i := 43) (by decide +kernel) rfl
set_option maxRecDepth 20000 in
theorem law_w235 : Cond.selects RX7 yX7_move yX7_move ∈ AW := aw_t4 (i := 44) (by decide +kernel) rfl
set_option maxRecDepth 20000 in
theorem law_w236 : Cond.instanceMethod yX7_odds ∈ AW := aw_t4 (i := 184) (by decide +kernel) rfl
set_option maxRecDepth 20000 in
theorem law_w237 : Cond.selects RX7 yX7_odds yX7_odds ∈ AW := aw_t4 (i := 185) (by decide +kernel) rfl
set_option maxRecDepth 20000 in
theorem law_w238 : Cond.instanceMethod yX7_ofCheese ∈ AW := aw_t4 (i := 27) (by decide +kernel) rfl
set_option maxRecDepth 20000 in
theorem law_w239 : Cond.selects RX7 yX7_ofCheese yX7_ofCheese ∈ AW := aw_t4 (i := 28) (by decide +kernel) rfl
set_option maxRecDepth 20000 in
theorem law_w240 : Cond.instanceMethod yX7_ofTalk ∈ AW := aw_t4 (i := 35) (by decide +kernel) rfl
set_option maxRecDepth 20000 in
theorem law_w241 : Cond.selects RX7 yX7_ofTalk yX7_ofTalk ∈ AW := aw_t4 (i := 36) (by decide +kernel) rfl
set_option maxRecDepth 20000 in
theorem law_w242 : Cond.instanceMethod yX7_put ∈ AW := aw_t4 (i := 200) (by decide +kernel) rfl
set_option maxRecDepth 20000 in
theorem law_w243 : Cond.selects RX7 yX7_put yX7_put ∈ AW := aw_t4 (i := 201) (by decide +kernel) rfl
set_option maxRecDepth 20000 in
theorem law_w244 : Cond.instanceMethod yX7_reading ∈ AW := aw_t4 (i := 156) (by decide +kernel) rfl
set_option maxRecDepth 20000 in
theorem law_w245 : Cond.selects RX7 yX7_reading yX7_reading ∈ AW := aw_t4 (i := 157) (by decide +kernel) rfl
set_option maxRecDepth 20000 in
theorem law_w246 : Cond.instanceMethod yX7_sheet ∈ AW := aw_t4 (i := 192) (by decide +kernel) rfl
set_option maxRecDepth 20000 in
theorem law_w247 : Cond.selects RX7 yX7_sheet yX7_sheet ∈ AW := aw_t4 (i := 193) (by decide +kernel) rfl
set_option maxRecDepth 20000 in
theorem law_w248 : Cond.instanceMethod yX7_shelve ∈ AW := aw_t4 (i := 136) (by decide +kernel) rfl
set_option maxRecDepth 20000 in
theorem law_w249 : Cond.selects RX7 yX7_shelve yX7_shelve ∈ AW := aw_t4 (i := 137) (by decide +kernel) rfl
set_option maxRecDepth 20000 in
theorem law_w250 : Cond.instanceMethod yX7_spare ∈ AW := aw_t4 (i := 112) (by decide +kernel) rfl
set_option maxRecDepth 20000 in
theorem law_w251 : Cond.selects RX7 yX7_spare yX7_spare ∈ AW := aw_t4 (i := 113) (by decide +kernel) rfl
set_option maxRecDepth 20000 in
theorem law_w252 : Cond.instanceMethod yX7_tap ∈ AW := aw_t4 (i := 224) (by decide +kernel) rfl
set_option maxRecDepth 20000 in
theorem law_w253 : Cond.selects RX7 yX7_tap yX7_tap ∈ AW := aw_t4 (i := 225) (by decide +kernel) rfl
set_option maxRecDepth 20000 in
theorem law_w254 : Cond.instanceMethod yX7_tell ∈ AW := aw_t4 (i := 216) (by decide +kernel) rfl
set_option maxRecDepth 20000 in
theorem law_w255 : Cond.selects RX7 yX7_tell yX7_tell ∈ AW := aw_t4 (i := 217) (by decide +kernel) rfl
set_option maxRecDepth 20000 in
theorem law_w256 : Cond.instanceMethod yX7_trace ∈ AW := aw_t4 (i := 232) (by decide +kernel) rfl
set_option maxRecDepth 20000 in
theorem law_w257 : Cond.selects RX7 yX7_trace yX7_trace ∈ AW := aw_t4 (i := 233) (by decide +kernel) rfl
set_option maxRecDepth 20000 in
theorem law_w258 : Cond.instanceMethod yX7_undo ∈ AW := aw_t4 (i := 54) (by decide +kernel) rfl
set_option maxRecDepth 20000 in
theorem law_w259 : Cond.selects RX7 yX7_undo yX7_undo ∈ AW := aw_t4 (i := 55) (by decide +kernel) rfl
set_option maxRecDepth 20000 in
theorem law_w260 : Cond.instanceMethod yX7_wall ∈ AW := aw_t4 (i := 58) (by decide +kernel) rfl
set_option maxRecDepth 20000 in
theorem law_w261 : Cond.selects RX7 yX7_wall yX7_wall ∈ AW := aw_t4 (i := 59) (by decide +kernel) rfl
set_option maxRecDepth 20000 in
theorem law_w262 : Cond.instanceMethod yX7_where ∈ AW := aw_t4 (i := 62) (by decide +kernel) rfl
set_option maxRecDepth 20000 in
theorem law_w263 : Cond.selects RX7 yX7_where yX7_where ∈ AW := aw_t4 (i := 63) (by decide +kernel) rfl
set_option maxRecDepth 20000 in
theorem law_w264 : Cond.instanceMethod yX7_words ∈ AW := aw_t4 (i := 172) (by decide +kernel) rfl
set_option maxRecDepth 20000 in
theorem law_w265 : Cond.selects RX7 yX7_words yX7_words ∈ AW := aw_t4 (i := 173) (by decide +kernel) rfl
set_option maxRecDepth 20000 in
theorem law_w266 : Cond.classLink RL 7 RX6 ∈ AW := aw_t1 (i := 13) (by decide +kernel) rfl
set_option maxRecDepth 20000 in
theorem law_w267 : Cond.instantiable RX6 8 ∈ AW := aw_t1 (i := 14) (by decide +kernel) rfl
set_option maxRecDepth 20000 in
theorem law_w268 : Cond.classLink RL 10 RX7 ∈ AW := aw_t3 (i := 115) (by decide +kernel) rfl
set_option maxRecDepth 20000 in
theorem law_w269 : Cond.instantiable RX7 33 ∈ AW := aw_t3 (i := 116) (by decide +kernel) rfl
set_option maxRecDepth 20000 in
theorem law_w270 : Cond.instanceMethod yX6_init ∈ AW := aw_t1 (i := 16) (by decide +kernel) rfl
set_option maxRecDepth 20000 in
theorem law_w271 : Cond.instanceMethod yX7_init ∈ AW := aw_t3 (i := 118) (by decide +kernel) rfl
set_option maxRecDepth 20000 in
theorem law_w272 : Cond.methodLink RL 9 yX6_init ∈ AW := aw_t1 (i := 15) (by decide +kernel) rfl
set_option maxRecDepth 20000 in
theorem law_w273 : Cond.methodLink RL 12 yX7_init ∈ AW := aw_t3 (i := 117) (by decide +kernel) rfl
set_option maxRecDepth 20000 in
theorem law_w274 : Cond.code yX6_init cX6_init 2 none ∈ AW := aw_t1 (i := 17) (rfl) rfl
set_option maxRecDepth 20000 in
theorem law_w275 : Cond.code yX7_init cX7_init 1 none ∈ AW := aw_t3 (i := 119) (rfl) rfl
set_option maxRecDepth 20000 in
theorem law_w276 : Cond.arrayClass .int ∈ AW := aw_t1 (i := 58) (by decide +kernel) rfl
set_option maxRecDepth 20000 in
theorem lf_13 : CF R_law 13 yX6_dairy cX6_dairy 9 (some .int) 4 := ⟨law_w0, law_w1, law_w2, by decide +kernel⟩
set_option maxRecDepth 20000 in
theorem lf_17 : CF R_law 17 yX7_dairy cX7_dairy 7 (some .int) 4 := ⟨law_w3, law_w4, law_w5, by decide +kernel⟩
set_option maxRecDepth 20000 in
theorem lf_18 : CF R_law 18 yX6_ofCheese cX6_ofCheese 3 (some .int) 2 := ⟨law_w6, law_w1, law_w7, by decide +kernel⟩
set_option maxRecDepth 20000 in
theorem lf_22 : CF R_law 22 yX7_ofCheese cX7_ofCheese 3 (some .int) 2 := ⟨law_w8, law_w4, law_w9, by decide +kernel⟩
set_option maxRecDepth 20000 in
theorem lf_23 : CF R_law 23 yX6_ofTalk cX6_ofTalk 3 (some .int) 2 := ⟨law_w10, law_w1, law_w11, by decide +kernel⟩
set_option maxRecDepth 20000 in
theorem lf_26 : CF R_law 26 yX7_ofTalk cX7_ofTalk 3 (some .int) 2 := ⟨law_w12, law_w4, law_w13, by decide +kernel⟩
set_option maxRecDepth 20000 in
theorem lf_27 : CF R_law 27 yX6_move cX6_move 5 (some .int) 3 := ⟨law_w14, law_w1, law_w15, by decide +kernel⟩
set_option maxRecDepth 20000 in
theorem lf_31 : CF R_law 31 yX7_move cX7_move 4 (some .int) 3 := ⟨law_w16, law_w4, law_w17, by decide +kernel⟩
set_option maxRecDepth 20000 in
theorem lf_32 : CF R_law 32 yX6_undo cX6_undo 3 (some .int) 1 := ⟨law_w18, law_w1, law_w19, by decide +kernel⟩
set_option maxRecDepth 20000 in
theorem lf_36 : CF R_law 36 yX7_undo cX7_undo 2 (some .int) 1 := ⟨law_w20, law_w4, law_w21, by decide +kernel⟩
set_option maxRecDepth 20000 in
theorem lf_37 : CF R_law 37 yX6_wall cX6_wall 4 (some .int) 2 := ⟨law_w22, law_w1, law_w23, by decide +kernel⟩
set_option maxRecDepth 20000 in
theorem lf_40 : CF R_law 40 yX7_wall cX7_wall 4 (some .int) 2 := ⟨law_w24, law_w4, law_w25, by decide +kernel⟩
set_option maxRecDepth 20000 in
theorem lf_41 : CF R_law 41 yX6_where cX6_where 3 (some .int) 2 := ⟨law_w26, law_w1, law_w27, by decide +kernel⟩
set_option maxRecDepth 20000 in
theorem lf_44 : CF R_law 44 yX7_where cX7_where 3 (some .int) 2 := ⟨law_w28, law_w4, law_w29, by decide +kernel⟩
set_option maxRecDepth 20000 in
theorem lf_45 : CF R_law 45 yX6_heard cX6_heard 2 (some .int) 1 := ⟨law_w30, law_w1, law_w31, by decide +kernel⟩
set_option maxRecDepth 20000 in
theorem lf_48 : CF R_law 48 yX7_heard cX7_heard 2 (some .int) 1 := ⟨law_w32, law_w4, law_w33, by decide +kernel⟩
set_option maxRecDepth 20000 in
theorem lf_49 : CF R_law 49 yX6_layer cX6_layer 3 (some .int) 2 := ⟨law_w34, law_w1, law_w35, by decide +kernel⟩
set_option maxRecDepth 20000 in
theorem lf_52 : CF R_law 52 yX7_layer cX7_layer 3 (some .int) 2 := ⟨law_w36, law_w4, law_w37, by decide +kernel⟩
set_option maxRecDepth 20000 in
theorem lf_53 : CF R_law 53 yX6_deep cX6_deep 3 (some .int) 2 := ⟨law_w38, law_w1, law_w39, by decide +kernel⟩
set_option maxRecDepth 20000 in
theorem lf_56 : CF R_law 56 yX7_deep cX7_deep 5 (some .int) 2 := ⟨law_w40, law_w4, law_w41, by decide +kernel⟩
set_option maxRecDepth 20000 in
theorem lf_57 : CF R_law 57 yX6_cuts cX6_cuts 8 (some .int) 5 := ⟨law_w42, law_w1, law_w43, by decide +kernel⟩
set_option maxRecDepth 20000 in
theorem lf_61 : CF R_law 61 yX7_cuts cX7_cuts 12 (some .int) 5 := ⟨law_w44, law_w4, law_w45, by decide +kernel⟩
set_option maxRecDepth 20000 in
theorem lf_62 : CF R_law 62 yX6_spare cX6_spare 4 (some .int) 3 := ⟨law_w46, law_w1, law_w47, by decide +kernel⟩
set_option maxRecDepth 20000 in
theorem lf_65 : CF R_law 65 yX7_spare cX7_spare 5 (some .int) 3 := ⟨law_w48, law_w4, law_w49, by decide +kernel⟩
set_option maxRecDepth 20000 in
theorem lf_66 : CF R_law 66 yX6_shelve cX6_shelve 2 (some .int) 1 := ⟨law_w50, law_w1, law_w51, by decide +kernel⟩
set_option maxRecDepth 20000 in
theorem lf_69 : CF R_law 69 yX7_shelve cX7_shelve 3 (some .int) 1 := ⟨law_w52, law_w4, law_w53, by decide +kernel⟩
set_option maxRecDepth 20000 in
theorem lf_70 : CF R_law 70 yX6_common cX6_common 3 (some .int) 0 := ⟨law_w54, law_w1, law_w55, by decide +kernel⟩
set_option maxRecDepth 20000 in
theorem lf_74 : CF R_law 74 yX7_common cX7_common 3 (some .int) 0 := ⟨law_w56, law_w4, law_w57, by decide +kernel⟩
set_option maxRecDepth 20000 in
theorem lf_75 : CF R_law 75 yX6_alone cX6_alone 4 (some .int) 1 := ⟨law_w58, law_w1, law_w59, by decide +kernel⟩
set_option maxRecDepth 20000 in
theorem lf_78 : CF R_law 78 yX7_alone cX7_alone 4 (some .int) 1 := ⟨law_w60, law_w4, law_w61, by decide +kernel⟩
set_option maxRecDepth 20000 in
theorem lf_79 : CF R_law 79 yX6_reading cX6_reading 4 (some .int) 3 := ⟨law_w62, law_w1, law_w63, by decide +kernel⟩
set_option maxRecDepth 20000 in
theorem lf_82 : CF R_law 82 yX7_reading cX7_reading 4 (some .int) 3 := ⟨law_w64, law_w4, law_w65, by decide +kernel⟩
set_option maxRecDepth 20000 in
theorem lf_83 : CF R_law 83 yX6_back cX6_back 2 (some .int) 1 := ⟨law_w66, law_w1, law_w67, by decide +kernel⟩
set_option maxRecDepth 20000 in
theorem lf_86 : CF R_law 86 yX7_back cX7_back 2 (some .int) 1 := ⟨law_w68, law_w4, law_w69, by decide +kernel⟩
set_option maxRecDepth 20000 in
theorem lf_87 : CF R_law 87 yX6_louds cX6_louds 2 (some .int) 1 := ⟨law_w70, law_w1, law_w71, by decide +kernel⟩
set_option maxRecDepth 20000 in
theorem lf_90 : CF R_law 90 yX7_louds cX7_louds 5 (some .int) 1 := ⟨law_w72, law_w4, law_w73, by decide +kernel⟩
set_option maxRecDepth 20000 in
theorem lf_91 : CF R_law 91 yX6_words cX6_words 2 (some .int) 1 := ⟨law_w74, law_w1, law_w75, by decide +kernel⟩
set_option maxRecDepth 20000 in
theorem lf_94 : CF R_law 94 yX7_words cX7_words 5 (some .int) 1 := ⟨law_w76, law_w4, law_w77, by decide +kernel⟩
set_option maxRecDepth 20000 in
theorem lf_95 : CF R_law 95 yX6_kinds cX6_kinds 2 (some .int) 1 := ⟨law_w78, law_w1, law_w79, by decide +kernel⟩
set_option maxRecDepth 20000 in
theorem lf_98 : CF R_law 98 yX7_kinds cX7_kinds 5 (some .int) 1 := ⟨law_w80, law_w4, law_w81, by decide +kernel⟩
set_option maxRecDepth 20000 in
theorem lf_99 : CF R_law 99 yX6_lay cX6_lay 2 (some .int) 1 := ⟨law_w82, law_w1, law_w83, by decide +kernel⟩
set_option maxRecDepth 20000 in
theorem lf_102 : CF R_law 102 yX7_lay cX7_lay 5 (some .int) 1 := ⟨law_w84, law_w4, law_w85, by decide +kernel⟩
set_option maxRecDepth 20000 in
theorem lf_103 : CF R_law 103 yX6_odds cX6_odds 4 (some .long) 3 := ⟨law_w86, law_w1, law_w87, by decide +kernel⟩
set_option maxRecDepth 20000 in
theorem lf_107 : CF R_law 107 yX7_odds cX7_odds 6 (some .long) 3 := ⟨law_w88, law_w4, law_w89, by decide +kernel⟩
set_option maxRecDepth 20000 in
theorem lf_108 : CF R_law 108 yX6_sheet cX6_sheet 4 (some .int) 3 := ⟨law_w90, law_w1, law_w91, by decide +kernel⟩
set_option maxRecDepth 20000 in
theorem lf_111 : CF R_law 111 yX7_sheet cX7_sheet 5 (some .int) 3 := ⟨law_w92, law_w4, law_w93, by decide +kernel⟩
set_option maxRecDepth 20000 in
theorem lf_112 : CF R_law 112 yX6_lose cX6_lose 2 (some .int) 1 := ⟨law_w94, law_w1, law_w95, by decide +kernel⟩
set_option maxRecDepth 20000 in
theorem lf_115 : CF R_law 115 yX7_lose cX7_lose 3 (some .int) 1 := ⟨law_w96, law_w4, law_w97, by decide +kernel⟩
set_option maxRecDepth 20000 in
theorem lf_116 : CF R_law 116 yX6_put cX6_put 5 (some .int) 3 := ⟨law_w98, law_w1, law_w99, by decide +kernel⟩
set_option maxRecDepth 20000 in
theorem lf_119 : CF R_law 119 yX7_put cX7_put 4 (some .int) 3 := ⟨law_w100, law_w4, law_w101, by decide +kernel⟩
set_option maxRecDepth 20000 in
theorem lf_120 : CF R_law 120 yX6_cell cX6_cell 5 (some .long) 3 := ⟨law_w102, law_w1, law_w103, by decide +kernel⟩
set_option maxRecDepth 20000 in
theorem lf_123 : CF R_law 123 yX7_cell cX7_cell 4 (some .long) 3 := ⟨law_w104, law_w4, law_w105, by decide +kernel⟩
set_option maxRecDepth 20000 in
theorem lf_124 : CF R_law 124 yX6_copy cX6_copy 8 (some .int) 5 := ⟨law_w106, law_w1, law_w107, by decide +kernel⟩
set_option maxRecDepth 20000 in
theorem lf_127 : CF R_law 127 yX7_copy cX7_copy 10 (some .int) 5 := ⟨law_w108, law_w4, law_w109, by decide +kernel⟩
set_option maxRecDepth 20000 in
theorem lf_128 : CF R_law 128 yX6_tell cX6_tell 3 (some .int) 1 := ⟨law_w110, law_w1, law_w111, by decide +kernel⟩
set_option maxRecDepth 20000 in
theorem lf_131 : CF R_law 131 yX7_tell cX7_tell 3 (some .int) 1 := ⟨law_w112, law_w4, law_w113, by decide +kernel⟩
set_option maxRecDepth 20000 in
theorem lf_132 : CF R_law 132 yX6_tap cX6_tap 2 (some .int) 1 := ⟨law_w114, law_w1, law_w115, by decide +kernel⟩
set_option maxRecDepth 20000 in
theorem lf_135 : CF R_law 135 yX7_tap cX7_tap 2 (some .int) 1 := ⟨law_w116, law_w4, law_w117, by decide +kernel⟩
set_option maxRecDepth 20000 in
theorem lf_136 : CF R_law 136 yX6_as cX6_as 3 (some .int) 2 := ⟨law_w118, law_w1, law_w119, by decide +kernel⟩
set_option maxRecDepth 20000 in
theorem lf_139 : CF R_law 139 yX7_as cX7_as 3 (some .int) 2 := ⟨law_w120, law_w4, law_w121, by decide +kernel⟩
set_option maxRecDepth 20000 in
theorem lf_140 : CF R_law 140 yX6_trace cX6_trace 1 (some .int) 0 := ⟨law_w122, law_w1, law_w123, by decide +kernel⟩
set_option maxRecDepth 20000 in
theorem lf_143 : CF R_law 143 yX7_trace cX7_trace 1 (some .int) 0 := ⟨law_w124, law_w4, law_w125, by decide +kernel⟩
set_option maxRecDepth 20000 in
theorem lf_144 : CF R_law 144 yX6_fault cX6_fault 1 (some .int) 0 := ⟨law_w126, law_w1, law_w127, by decide +kernel⟩
set_option maxRecDepth 20000 in
theorem lf_147 : CF R_law 147 yX7_fault cX7_fault 1 (some .int) 0 := ⟨law_w128, law_w4, law_w129, by decide +kernel⟩
set_option maxRecDepth 20000 in
theorem lf_148 : CF R_law 148 yX6_many cX6_many 2 (some .int) 1 := ⟨law_w130, law_w1, law_w131, by decide +kernel⟩
set_option maxRecDepth 20000 in
theorem lf_151 : CF R_law 151 yX7_many cX7_many 2 (some .int) 1 := ⟨law_w132, law_w4, law_w133, by decide +kernel⟩
set_option maxRecDepth 20000 in
theorem lv_X6_alone : CV yX6_alone 6 := ⟨law_w134, law_w135, TX6, 8, rfl⟩
set_option maxRecDepth 20000 in
theorem lv_X6_as : CV yX6_as 6 := ⟨law_w136, law_w137, TX6, 8, rfl⟩
set_option maxRecDepth 20000 in
theorem lv_X6_back : CV yX6_back 6 := ⟨law_w138, law_w139, TX6, 8, rfl⟩
set_option maxRecDepth 20000 in
theorem lv_X6_cell : CV yX6_cell 6 := ⟨law_w140, law_w141, TX6, 8, rfl⟩
set_option maxRecDepth 20000 in
theorem lv_X6_common : CV yX6_common 6 := ⟨law_w142, law_w143, TX6, 8, rfl⟩
set_option maxRecDepth 20000 in
theorem lv_X6_copy : CV yX6_copy 6 := ⟨law_w144, law_w145, TX6, 8, rfl⟩
set_option maxRecDepth 20000 in
theorem lv_X6_cuts : CV yX6_cuts 6 := ⟨law_w146, law_w147, TX6, 8, rfl⟩
set_option maxRecDepth 20000 in
theorem lv_X6_dairy : CV yX6_dairy 6 := ⟨law_w148, law_w149, TX6, 8, rfl⟩
set_option maxRecDepth 20000 in
theorem lv_X6_deep : CV yX6_deep 6 := ⟨law_w150, law_w151, TX6, 8, rfl⟩
set_option maxRecDepth 20000 in
theorem lv_X6_fault : CV yX6_fault 6 := ⟨law_w152, law_w153, TX6, 8, rfl⟩
set_option maxRecDepth 20000 in
theorem lv_X6_heard : CV yX6_heard 6 := ⟨law_w154, law_w155, TX6, 8, rfl⟩
set_option maxRecDepth 20000 in
theorem lv_X6_kinds : CV yX6_kinds 6 := ⟨law_w156, law_w157, TX6, 8, rfl⟩
set_option maxRecDepth 20000 in
theorem lv_X6_lay : CV yX6_lay 6 := ⟨law_w158, law_w159, TX6, 8, rfl⟩
set_option maxRecDepth 20000 in
theorem lv_X6_layer : CV yX6_layer 6 := ⟨law_w160, law_w161, TX6, 8, rfl⟩
set_option maxRecDepth 20000 in
theorem lv_X6_lose : CV yX6_lose 6 := ⟨law_w162, law_w163, TX6, 8, rfl⟩
set_option maxRecDepth 20000 in
theorem lv_X6_louds : CV yX6_louds 6 := ⟨law_w164, law_w165, TX6, 8, rfl⟩
set_option maxRecDepth 20000 in
theorem lv_X6_many : CV yX6_many 6 := ⟨law_w166, law_w167, TX6, 8, rfl⟩
set_option maxRecDepth 20000 in
theorem lv_X6_move : CV yX6_move 6 := ⟨law_w168, law_w169, TX6, 8, rfl⟩
set_option maxRecDepth 20000 in
theorem lv_X6_odds : CV yX6_odds 6 := ⟨law_w170, law_w171, TX6, 8, rfl⟩
set_option maxRecDepth 20000 in
theorem lv_X6_ofCheese : CV yX6_ofCheese 6 := ⟨law_w172, law_w173, TX6, 8, rfl⟩
set_option maxRecDepth 20000 in
theorem lv_X6_ofTalk : CV yX6_ofTalk 6 := ⟨law_w174, law_w175, TX6, 8, rfl⟩
set_option maxRecDepth 20000 in
theorem lv_X6_put : CV yX6_put 6 := ⟨law_w176, law_w177, TX6, 8, rfl⟩
set_option maxRecDepth 20000 in
theorem lv_X6_reading : CV yX6_reading 6 := ⟨law_w178, law_w179, TX6, 8, rfl⟩
set_option maxRecDepth 20000 in
theorem lv_X6_sheet : CV yX6_sheet 6 := ⟨law_w180, law_w181, TX6, 8, rfl⟩
set_option maxRecDepth 20000 in
theorem lv_X6_shelve : CV yX6_shelve 6 := ⟨law_w182, law_w183, TX6, 8, rfl⟩
set_option maxRecDepth 20000 in
theorem lv_X6_spare : CV yX6_spare 6 := ⟨law_w184, law_w185, TX6, 8, rfl⟩
set_option maxRecDepth 20000 in
theorem lv_X6_tap : CV yX6_tap 6 := ⟨law_w186, law_w187, TX6, 8, rfl⟩
set_option maxRecDepth 20000 in
theorem lv_X6_tell : CV yX6_tell 6 := ⟨law_w188, law_w189, TX6, 8, rfl⟩
set_option maxRecDepth 20000 in
theorem lv_X6_trace : CV yX6_trace 6 := ⟨law_w190, law_w191, TX6, 8, rfl⟩
set_option maxRecDepth 20000 in
theorem lv_X6_undo : CV yX6_undo 6 := ⟨law_w192, law_w193, TX6, 8, rfl⟩
set_option maxRecDepth 20000 in
theorem lv_X6_wall : CV yX6_wall 6 := ⟨law_w194, law_w195, TX6, 8, rfl⟩
set_option maxRecDepth 20000 in
theorem lv_X6_where : CV yX6_where 6 := ⟨law_w196, law_w197, TX6, 8, rfl⟩
set_option maxRecDepth 20000 in
theorem lv_X6_words : CV yX6_words 6 := ⟨law_w198, law_w199, TX6, 8, rfl⟩
set_option maxRecDepth 20000 in
theorem lv_X7_alone : CV yX7_alone 7 := ⟨law_w200, law_w201, TX7, 33, rfl⟩
set_option maxRecDepth 20000 in
theorem lv_X7_as : CV yX7_as 7 := ⟨law_w202, law_w203, TX7, 33, rfl⟩
set_option maxRecDepth 20000 in
theorem lv_X7_back : CV yX7_back 7 := ⟨law_w204, law_w205, TX7, 33, rfl⟩
set_option maxRecDepth 20000 in
theorem lv_X7_cell : CV yX7_cell 7 := ⟨law_w206, law_w207, TX7, 33, rfl⟩
set_option maxRecDepth 20000 in
theorem lv_X7_common : CV yX7_common 7 := ⟨law_w208, law_w209, TX7, 33, rfl⟩
set_option maxRecDepth 20000 in
theorem lv_X7_copy : CV yX7_copy 7 := ⟨law_w210, law_w211, TX7, 33, rfl⟩
set_option maxRecDepth 20000 in
theorem lv_X7_cuts : CV yX7_cuts 7 := ⟨law_w212, law_w213, TX7, 33, rfl⟩
set_option maxRecDepth 20000 in
theorem lv_X7_dairy : CV yX7_dairy 7 := ⟨law_w214, law_w215, TX7, 33, rfl⟩
set_option maxRecDepth 20000 in
theorem lv_X7_deep : CV yX7_deep 7 := ⟨law_w216, law_w217, TX7, 33, rfl⟩
set_option maxRecDepth 20000 in
theorem lv_X7_fault : CV yX7_fault 7 := ⟨law_w218, law_w219, TX7, 33, rfl⟩
set_option maxRecDepth 20000 in
theorem lv_X7_heard : CV yX7_heard 7 := ⟨law_w220, law_w221, TX7, 33, rfl⟩
set_option maxRecDepth 20000 in
theorem lv_X7_kinds : CV yX7_kinds 7 := ⟨law_w222, law_w223, TX7, 33, rfl⟩
set_option maxRecDepth 20000 in
theorem lv_X7_lay : CV yX7_lay 7 := ⟨law_w224, law_w225, TX7, 33, rfl⟩
set_option maxRecDepth 20000 in
theorem lv_X7_layer : CV yX7_layer 7 := ⟨law_w226, law_w227, TX7, 33, rfl⟩
set_option maxRecDepth 20000 in
theorem lv_X7_lose : CV yX7_lose 7 := ⟨law_w228, law_w229, TX7, 33, rfl⟩
set_option maxRecDepth 20000 in
theorem lv_X7_louds : CV yX7_louds 7 := ⟨law_w230, law_w231, TX7, 33, rfl⟩
set_option maxRecDepth 20000 in
theorem lv_X7_many : CV yX7_many 7 := ⟨law_w232, law_w233, TX7, 33, rfl⟩
set_option maxRecDepth 20000 in
theorem lv_X7_move : CV yX7_move 7 := ⟨law_w234, law_w235, TX7, 33, rfl⟩
set_option maxRecDepth 20000 in
theorem lv_X7_odds : CV yX7_odds 7 := ⟨law_w236, law_w237, TX7, 33, rfl⟩
set_option maxRecDepth 20000 in
theorem lv_X7_ofCheese : CV yX7_ofCheese 7 := ⟨law_w238, law_w239, TX7, 33, rfl⟩
set_option maxRecDepth 20000 in
theorem lv_X7_ofTalk : CV yX7_ofTalk 7 := ⟨law_w240, law_w241, TX7, 33, rfl⟩
set_option maxRecDepth 20000 in
theorem lv_X7_put : CV yX7_put 7 := ⟨law_w242, law_w243, TX7, 33, rfl⟩
set_option maxRecDepth 20000 in
theorem lv_X7_reading : CV yX7_reading 7 := ⟨law_w244, law_w245, TX7, 33, rfl⟩
set_option maxRecDepth 20000 in
theorem lv_X7_sheet : CV yX7_sheet 7 := ⟨law_w246, law_w247, TX7, 33, rfl⟩
set_option maxRecDepth 20000 in
theorem lv_X7_shelve : CV yX7_shelve 7 := ⟨law_w248, law_w249, TX7, 33, rfl⟩
set_option maxRecDepth 20000 in
theorem lv_X7_spare : CV yX7_spare 7 := ⟨law_w250, law_w251, TX7, 33, rfl⟩
set_option maxRecDepth 20000 in
theorem lv_X7_tap : CV yX7_tap 7 := ⟨law_w252, law_w253, TX7, 33, rfl⟩
set_option maxRecDepth 20000 in
theorem lv_X7_tell : CV yX7_tell 7 := ⟨law_w254, law_w255, TX7, 33, rfl⟩
set_option maxRecDepth 20000 in
theorem lv_X7_trace : CV yX7_trace 7 := ⟨law_w256, law_w257, TX7, 33, rfl⟩
set_option maxRecDepth 20000 in
theorem lv_X7_undo : CV yX7_undo 7 := ⟨law_w258, law_w259, TX7, 33, rfl⟩
set_option maxRecDepth 20000 in
theorem lv_X7_wall : CV yX7_wall 7 := ⟨law_w260, law_w261, TX7, 33, rfl⟩
set_option maxRecDepth 20000 in
theorem lv_X7_where : CV yX7_where 7 := ⟨law_w262, law_w263, TX7, 33, rfl⟩
set_option maxRecDepth 20000 in
theorem lv_X7_words : CV yX7_words 7 := ⟨law_w264, law_w265, TX7, 33, rfl⟩
set_option maxHeartbeats 4000000 in
set_option maxRecDepth 100000 in
theorem law_0 {Y : Yx} (C : OL Y) (Inv : Hp → Hp → Prop) (st_dairy : ∀ a b c d : Int32, SP Inv (fun h => F_X6_dairy 0 a b c d h) (fun k => F_X7_dairy 0 a b c d k)) {x3 : Int32} (hi : ∀ j : Nat, j < 6 → vp_in (x3 + nI j) (yn Y)) {h k : Hp} (hI : Inv h k) (q : ∀ h' k', Inv h' k' → GL Y 1231 [some (.ref (yb Y)), some (.ref (yB Y + 0)), some (.ref (yB Y + 75 + 0)), some (.int x3)] [] h' k') : GL Y 180 [some (.ref (yb Y)), some (.ref (yB Y + 0)), some (.ref (yB Y + 75 + 0)), some (.int x3)] [] h k := by
  obtain ⟨r, h1, k1, ex, em, hI1⟩ := st_dairy (yx Y (x3 + (1 : Int32)).toNatClampNeg) (yx Y (x3 + (2 : Int32)).toNatClampNeg) (yx Y (x3 + (3 : Int32)).toNatClampNeg) (yx Y (x3 + (4 : Int32)).toNatClampNeg) h k hI
  refine l_aload_n (i := 1) C dL_law_180 rfl rfl ?_
  refine l_aload_n (i := 0) C dL_law_181 rfl rfl ?_
  refine l_iload_n (i := 3) C dL_law_182 rfl rfl ?_
  refine l_iconst (v := 1) C dL_law_183 (by decide) ?_
  refine l_iadd C dL_law_184 ?_
  refine l_sld C (hi 1 (by decide)) dL_law_185 ?_
  refine l_aload_n (i := 0) C dL_law_186 rfl rfl ?_
  refine l_iload_n (i := 3) C dL_law_187 rfl rfl ?_
  refine l_iconst (v := 2) C dL_law_188 (by decide) ?_
  refine l_iadd C dL_law_189 ?_
  refine l_sld C (hi 2 (by decide)) dL_law_190 ?_
  refine l_aload_n (i := 0) C dL_law_191 rfl rfl ?_
  refine l_iload_n (i := 3) C dL_law_192 rfl rfl ?_
  refine l_iconst (v := 3) C dL_law_193 (by decide) ?_
  refine l_iadd C dL_law_194 ?_
  refine l_sld C (hi 3 (by decide)) dL_law_195 ?_
  refine l_aload_n (i := 0) C dL_law_196 rfl rfl ?_
  refine l_iload_n (i := 3) C dL_law_197 rfl rfl ?_
  refine l_iconst (v := 4) C dL_law_198 (by decide) ?_
  refine l_iadd C dL_law_199 ?_
  refine l_sld C (hi 4 (by decide)) dL_law_200 ?_
  refine l_callX (valc := vi) (r := r) [.int (yx Y (x3 + (1 : Int32)).toNatClampNeg), .int (yx Y (x3 + (2 : Int32)).toNatClampNeg), .int (yx Y (x3 + (3 : Int32)).toNatClampNeg), .int (yx Y (x3 + (4 : Int32)).toNatClampNeg)] [] C lf_13 lv_X6_dairy (fun E => c_X6_dairy E 0 (yx Y (x3 + (1 : Int32)).toNatClampNeg) (yx Y (x3 + (2 : Int32)).toNatClampNeg) (yx Y (x3 + (3 : Int32)).toNatClampNeg) (yx Y (x3 + (4 : Int32)).toNatClampNeg) rfl h ex) (by decide) (by decide) rfl rfl (Nat.le_of_ble_eq_true rfl) dL_law_201 ?_
  refine l_aload_n (i := 2) C dL_law_204 rfl rfl ?_
  refine l_aload_n (i := 0) C dL_law_205 rfl rfl ?_
  refine l_iload_n (i := 3) C dL_law_206 rfl rfl ?_
  refine l_iconst (v := 1) C dL_law_207 (by decide) ?_
  refine l_iadd C dL_law_208 ?_
  refine l_sld C (hi 1 (by decide)) dL_law_209 ?_
  refine l_aload_n (i := 0) C dL_law_210 rfl rfl ?_
  refine l_iload_n (i := 3) C dL_law_211 rfl rfl ?_
  refine l_iconst (v := 2) C dL_law_212 (by decide) ?_
  refine l_iadd C dL_law_213 ?_
  refine l_sld C (hi 2 (by decide)) dL_law_214 ?_
  refine l_aload_n (i := 0) C dL_law_215 rfl rfl ?_
  refine l_iload_n (i := 3) C dL_law_216 rfl rfl ?_
  refine l_iconst (v := 3) C dL_law_217 (by decide) ?_
  refine l_iadd C dL_law_218 ?_
  refine l_sld C (hi 3 (by decide)) dL_law_219 ?_
  refine l_aload_n (i := 0) C dL_law_220 rfl rfl ?_
  refine l_iload_n (i := 3) C dL_law_221 rfl rfl ?_
  refine l_iconst (v := 4) C dL_law_222 (by decide) ?_
  refine l_iadd C dL_law_223 ?_
  refine l_sld C (hi 4 (by decide)) dL_law_224 ?_
  refine l_callM (valc := vi) (r := r) [.int (yx Y (x3 + (1 : Int32)).toNatClampNeg), .int (yx Y (x3 + (2 : Int32)).toNatClampNeg), .int (yx Y (x3 + (3 : Int32)).toNatClampNeg), .int (yx Y (x3 + (4 : Int32)).toNatClampNeg)] [.int r] C lf_17 lv_X7_dairy (fun E => c_X7_dairy E 0 (yx Y (x3 + (1 : Int32)).toNatClampNeg) (yx Y (x3 + (2 : Int32)).toNatClampNeg) (yx Y (x3 + (3 : Int32)).toNatClampNeg) (yx Y (x3 + (4 : Int32)).toNatClampNeg) rfl k em) (by decide) (by decide) rfl rfl (Nat.le_of_ble_eq_true rfl) dL_law_225 ?_
  refine l_ieq C 1231 dL_law_228 (by decide) ?_
  exact q h1 k1 hI1
set_option maxHeartbeats 4000000 in
set_option maxRecDepth 100000 in
theorem law_1 {Y : Yx} (C : OL Y) (Inv : Hp → Hp → Prop) (st_ofCheese : ∀ a b : Int32, SP Inv (fun h => F_X6_ofCheese 0 a b h) (fun k => F_X7_ofCheese 0 a b k)) {x3 : Int32} (hi : ∀ j : Nat, j < 6 → vp_in (x3 + nI j) (yn Y)) {h k : Hp} (hI : Inv h k) (q : ∀ h' k', Inv h' k' → GL Y 1231 [some (.ref (yb Y)), some (.ref (yB Y + 0)), some (.ref (yB Y + 75 + 0)), some (.int x3)] [] h' k') : GL Y 233 [some (.ref (yb Y)), some (.ref (yB Y + 0)), some (.ref (yB Y + 75 + 0)), some (.int x3)] [] h k := by
  obtain ⟨r, h1, k1, ex, em, hI1⟩ := st_ofCheese (yx Y (x3 + (1 : Int32)).toNatClampNeg) (yx Y (x3 + (2 : Int32)).toNatClampNeg) h k hI
  refine l_aload_n (i := 1) C dL_law_233 rfl rfl ?_
  refine l_aload_n (i := 0) C dL_law_234 rfl rfl ?_
  refine l_iload_n (i := 3) C dL_law_235 rfl rfl ?_
  refine l_iconst (v := 1) C dL_law_236 (by decide) ?_
  refine l_iadd C dL_law_237 ?_
  refine l_sld C (hi 1 (by decide)) dL_law_238 ?_
  refine l_aload_n (i := 0) C dL_law_239 rfl rfl ?_
  refine l_iload_n (i := 3) C dL_law_240 rfl rfl ?_
  refine l_iconst (v := 2) C dL_law_241 (by decide) ?_
  refine l_iadd C dL_law_242 ?_
  refine l_sld C (hi 2 (by decide)) dL_law_243 ?_
  refine l_callX (valc := vi) (r := r) [.int (yx Y (x3 + (1 : Int32)).toNatClampNeg), .int (yx Y (x3 + (2 : Int32)).toNatClampNeg)] [] C lf_18 lv_X6_ofCheese (fun E => c_X6_ofCheese E 0 (yx Y (x3 + (1 : Int32)).toNatClampNeg) (yx Y (x3 + (2 : Int32)).toNatClampNeg) rfl h ex) (by decide) (by decide) rfl rfl (Nat.le_of_ble_eq_true rfl) dL_law_244 ?_
  refine l_aload_n (i := 2) C dL_law_247 rfl rfl ?_
  refine l_aload_n (i := 0) C dL_law_248 rfl rfl ?_
  refine l_iload_n (i := 3) C dL_law_249 rfl rfl ?_
  refine l_iconst (v := 1) C dL_law_250 (by decide) ?_
  refine l_iadd C dL_law_251 ?_
  refine l_sld C (hi 1 (by decide)) dL_law_252 ?_
  refine l_aload_n (i := 0) C dL_law_253 rfl rfl ?_
  refine l_iload_n (i := 3) C dL_law_254 rfl rfl ?_
  refine l_iconst (v := 2) C dL_law_255 (by decide) ?_
  refine l_iadd C dL_law_256 ?_
  refine l_sld C (hi 2 (by decide)) dL_law_257 ?_
  refine l_callM (valc := vi) (r := r) [.int (yx Y (x3 + (1 : Int32)).toNatClampNeg), .int (yx Y (x3 + (2 : Int32)).toNatClampNeg)] [.int r] C lf_22 lv_X7_ofCheese (fun E => c_X7_ofCheese E 0 (yx Y (x3 + (1 : Int32)).toNatClampNeg) (yx Y (x3 + (2 : Int32)).toNatClampNeg) rfl k em) (by decide) (by decide) rfl rfl (Nat.le_of_ble_eq_true rfl) dL_law_258 ?_
  refine l_ieq C 1231 dL_law_261 (by decide) ?_
  exact q h1 k1 hI1
set_option maxHeartbeats 4000000 in
set_option maxRecDepth 100000 in
theorem law_2 {Y : Yx} (C : OL Y) (Inv : Hp → Hp → Prop) (st_ofTalk : ∀ a b : Int32, SP Inv (fun h => F_X6_ofTalk 0 a b h) (fun k => F_X7_ofTalk 0 a b k)) {x3 : Int32} (hi : ∀ j : Nat, j < 6 → vp_in (x3 + nI j) (yn Y)) {h k : Hp} (hI : Inv h k) (q : ∀ h' k', Inv h' k' → GL Y 1231 [some (.ref (yb Y)), some (.ref (yB Y + 0)), some (.ref (yB Y + 75 + 0)), some (.int x3)] [] h' k') : GL Y 266 [some (.ref (yb Y)), some (.ref (yB Y + 0)), some (.ref (yB Y + 75 + 0)), some (.int x3)] [] h k := by
  obtain ⟨r, h1, k1, ex, em, hI1⟩ := st_ofTalk (yx Y (x3 + (1 : Int32)).toNatClampNeg) (yx Y (x3 + (2 : Int32)).toNatClampNeg) h k hI
  refine l_aload_n (i := 1) C dL_law_266 rfl rfl ?_
  refine l_aload_n (i := 0) C dL_law_267 rfl rfl ?_
  refine l_iload_n (i := 3) C dL_law_268 rfl rfl ?_
  refine l_iconst (v := 1) C dL_law_269 (by decide) ?_
  refine l_iadd C dL_law_270 ?_
  refine l_sld C (hi 1 (by decide)) dL_law_271 ?_
  refine l_aload_n (i := 0) C dL_law_272 rfl rfl ?_
  refine l_iload_n (i := 3) C dL_law_273 rfl rfl ?_
  refine l_iconst (v := 2) C dL_law_274 (by decide) ?_
  refine l_iadd C dL_law_275 ?_
  refine l_sld C (hi 2 (by decide)) dL_law_276 ?_
  refine l_callX (valc := vi) (r := r) [.int (yx Y (x3 + (1 : Int32)).toNatClampNeg), .int (yx Y (x3 + (2 : Int32)).toNatClampNeg)] [] C lf_23 lv_X6_ofTalk (fun E => c_X6_ofTalk E 0 (yx Y (x3 + (1 : Int32)).toNatClampNeg) (yx Y (x3 + (2 : Int32)).toNatClampNeg) rfl h ex) (by decide) (by decide) rfl rfl (Nat.le_of_ble_eq_true rfl) dL_law_277 ?_
  refine l_aload_n (i := 2) C dL_law_280 rfl rfl ?_
  refine l_aload_n (i := 0) C dL_law_281 rfl rfl ?_
  refine l_iload_n (i := 3) C dL_law_282 rfl rfl ?_
  refine l_iconst (v := 1) C dL_law_283 (by decide) ?_
  refine l_iadd C dL_law_284 ?_
  refine l_sld C (hi 1 (by decide)) dL_law_285 ?_
  refine l_aload_n (i := 0) C dL_law_286 rfl rfl ?_
  refine l_iload_n (i := 3) C dL_law_287 rfl rfl ?_
  refine l_iconst (v := 2) C dL_law_288 (by decide) ?_
  refine l_iadd C dL_law_289 ?_
  refine l_sld C (hi 2 (by decide)) dL_law_290 ?_
  refine l_callM (valc := vi) (r := r) [.int (yx Y (x3 + (1 : Int32)).toNatClampNeg), .int (yx Y (x3 + (2 : Int32)).toNatClampNeg)] [.int r] C lf_26 lv_X7_ofTalk (fun E => c_X7_ofTalk E 0 (yx Y (x3 + (1 : Int32)).toNatClampNeg) (yx Y (x3 + (2 : Int32)).toNatClampNeg) rfl k em) (by decide) (by decide) rfl rfl (Nat.le_of_ble_eq_true rfl) dL_law_291 ?_
  refine l_ieq C 1231 dL_law_294 (by decide) ?_
  exact q h1 k1 hI1
set_option maxHeartbeats 4000000 in
set_option maxRecDepth 100000 in
theorem law_3 {Y : Yx} (C : OL Y) (Inv : Hp → Hp → Prop) (st_move : ∀ a b c : Int32, SP Inv (fun h => F_X6_move 0 a b c h) (fun k => F_X7_move 0 a b c k)) {x3 : Int32} (hi : ∀ j : Nat, j < 6 → vp_in (x3 + nI j) (yn Y)) {h k : Hp} (hI : Inv h k) (q : ∀ h' k', Inv h' k' → GL Y 1231 [some (.ref (yb Y)), some (.ref (yB Y + 0)), some (.ref (yB Y + 75 + 0)), some (.int x3)] [] h' k') : GL Y 299 [some (.ref (yb Y)), some (.ref (yB Y + 0)), some (.ref (yB Y + 75 + 0)), some (.int x3)] [] h k := by
  obtain ⟨r, h1, k1, ex, em, hI1⟩ := st_move (yx Y (x3 + (1 : Int32)).toNatClampNeg) (yx Y (x3 + (2 : Int32)).toNatClampNeg) (yx Y (x3 + (3 : Int32)).toNatClampNeg) h k hI
  refine l_aload_n (i := 1) C dL_law_299 rfl rfl ?_
  refine l_aload_n (i := 0) C dL_law_300 rfl rfl ?_
  refine l_iload_n (i := 3) C dL_law_301 rfl rfl ?_
  refine l_iconst (v := 1) C dL_law_302 (by decide) ?_
  refine l_iadd C dL_law_303 ?_
  refine l_sld C (hi 1 (by decide)) dL_law_304 ?_
  refine l_aload_n (i := 0) C dL_law_305 rfl rfl ?_
  refine l_iload_n (i := 3) C dL_law_306 rfl rfl ?_
  refine l_iconst (v := 2) C dL_law_307 (by decide) ?_
  refine l_iadd C dL_law_308 ?_
  refine l_sld C (hi 2 (by decide)) dL_law_309 ?_
  refine l_aload_n (i := 0) C dL_law_310 rfl rfl ?_
  refine l_iload_n (i := 3) C dL_law_311 rfl rfl ?_
  refine l_iconst (v := 3) C dL_law_312 (by decide) ?_
  refine l_iadd C dL_law_313 ?_
  refine l_sld C (hi 3 (by decide)) dL_law_314 ?_
  refine l_callX (valc := vi) (r := r) [.int (yx Y (x3 + (1 : Int32)).toNatClampNeg), .int (yx Y (x3 + (2 : Int32)).toNatClampNeg), .int (yx Y (x3 + (3 : Int32)).toNatClampNeg)] [] C lf_27 lv_X6_move (fun E => c_X6_move E 0 (yx Y (x3 + (1 : Int32)).toNatClampNeg) (yx Y (x3 + (2 : Int32)).toNatClampNeg) (yx Y (x3 + (3 : Int32)).toNatClampNeg) rfl h ex) (by decide) (by decide) rfl rfl (Nat.le_of_ble_eq_true rfl) dL_law_315 ?_
  refine l_aload_n (i := 2) C dL_law_318 rfl rfl ?_
  refine l_aload_n (i := 0) C dL_law_319 rfl rfl ?_
  refine l_iload_n (i := 3) C dL_law_320 rfl rfl ?_
  refine l_iconst (v := 1) C dL_law_321 (by decide) ?_
  refine l_iadd C dL_law_322 ?_
  refine l_sld C (hi 1 (by decide)) dL_law_323 ?_
  refine l_aload_n (i := 0) C dL_law_324 rfl rfl ?_
  refine l_iload_n (i := 3) C dL_law_325 rfl rfl ?_
  refine l_iconst (v := 2) C dL_law_326 (by decide) ?_
  refine l_iadd C dL_law_327 ?_
  refine l_sld C (hi 2 (by decide)) dL_law_328 ?_
  refine l_aload_n (i := 0) C dL_law_329 rfl rfl ?_
  refine l_iload_n (i := 3) C dL_law_330 rfl rfl ?_
  refine l_iconst (v := 3) C dL_law_331 (by decide) ?_
  refine l_iadd C dL_law_332 ?_
  refine l_sld C (hi 3 (by decide)) dL_law_333 ?_
  refine l_callM (valc := vi) (r := r) [.int (yx Y (x3 + (1 : Int32)).toNatClampNeg), .int (yx Y (x3 + (2 : Int32)).toNatClampNeg), .int (yx Y (x3 + (3 : Int32)).toNatClampNeg)] [.int r] C lf_31 lv_X7_move (fun E => c_X7_move E 0 (yx Y (x3 + (1 : Int32)).toNatClampNeg) (yx Y (x3 + (2 : Int32)).toNatClampNeg) (yx Y (x3 + (3 : Int32)).toNatClampNeg) rfl k em) (by decide) (by decide) rfl rfl (Nat.le_of_ble_eq_true rfl) dL_law_334 ?_
  refine l_ieq C 1231 dL_law_337 (by decide) ?_
  exact q h1 k1 hI1
set_option maxHeartbeats 4000000 in
set_option maxRecDepth 100000 in
theorem law_4 {Y : Yx} (C : OL Y) (Inv : Hp → Hp → Prop) (st_undo : ∀ a : Int32, SP Inv (fun h => F_X6_undo 0 a h) (fun k => F_X7_undo 0 a k)) {x3 : Int32} (hi : ∀ j : Nat, j < 6 → vp_in (x3 + nI j) (yn Y)) {h k : Hp} (hI : Inv h k) (q : ∀ h' k', Inv h' k' → GL Y 1231 [some (.ref (yb Y)), some (.ref (yB Y + 0)), some (.ref (yB Y + 75 + 0)), some (.int x3)] [] h' k') : GL Y 342 [some (.ref (yb Y)), some (.ref (yB Y + 0)), some (.ref (yB Y + 75 + 0)), some (.int x3)] [] h k := by
  obtain ⟨r, h1, k1, ex, em, hI1⟩ := st_undo (yx Y (x3 + (1 : Int32)).toNatClampNeg) h k hI
  refine l_aload_n (i := 1) C dL_law_342 rfl rfl ?_
  refine l_aload_n (i := 0) C dL_law_343 rfl rfl ?_
  refine l_iload_n (i := 3) C dL_law_344 rfl rfl ?_
  refine l_iconst (v := 1) C dL_law_345 (by decide) ?_
  refine l_iadd C dL_law_346 ?_
  refine l_sld C (hi 1 (by decide)) dL_law_347 ?_
  refine l_callX (valc := vi) (r := r) [.int (yx Y (x3 + (1 : Int32)).toNatClampNeg)] [] C lf_32 lv_X6_undo (fun E => c_X6_undo E 0 (yx Y (x3 + (1 : Int32)).toNatClampNeg) rfl h ex) (by decide) (by decide) rfl rfl (Nat.le_of_ble_eq_true rfl) dL_law_348 ?_
  refine l_aload_n (i := 2) C dL_law_351 rfl rfl ?_
  refine l_aload_n (i := 0) C dL_law_352 rfl rfl ?_
  refine l_iload_n (i := 3) C dL_law_353 rfl rfl ?_
  refine l_iconst (v := 1) C dL_law_354 (by decide) ?_
  refine l_iadd C dL_law_355 ?_
  refine l_sld C (hi 1 (by decide)) dL_law_356 ?_
  refine l_callM (valc := vi) (r := r) [.int (yx Y (x3 + (1 : Int32)).toNatClampNeg)] [.int r] C lf_36 lv_X7_undo (fun E => c_X7_undo E 0 (yx Y (x3 + (1 : Int32)).toNatClampNeg) rfl k em) (by decide) (by decide) rfl rfl (Nat.le_of_ble_eq_true rfl) dL_law_357 ?_
  refine l_ieq C 1231 dL_law_360 (by decide) ?_
  exact q h1 k1 hI1
set_option maxHeartbeats 4000000 in
set_option maxRecDepth 100000 in
theorem law_5 {Y : Yx} (C : OL Y) (Inv : Hp → Hp → Prop) (st_wall : ∀ a b : Int32, SP Inv (fun h => F_X6_wall 0 a b h) (fun k => F_X7_wall 0 a b k)) {x3 : Int32} (hi : ∀ j : Nat, j < 6 → vp_in (x3 + nI j) (yn Y)) {h k : Hp} (hI : Inv h k) (q : ∀ h' k', Inv h' k' → GL Y 1231 [some (.ref (yb Y)), some (.ref (yB Y + 0)), some (.ref (yB Y + 75 + 0)), some (.int x3)] [] h' k') : GL Y 365 [some (.ref (yb Y)), some (.ref (yB Y + 0)), some (.ref (yB Y + 75 + 0)), some (.int x3)] [] h k := by
  obtain ⟨r, h1, k1, ex, em, hI1⟩ := st_wall (yx Y (x3 + (1 : Int32)).toNatClampNeg) (yx Y (x3 + (2 : Int32)).toNatClampNeg) h k hI
  refine l_aload_n (i := 1) C dL_law_365 rfl rfl ?_
  refine l_aload_n (i := 0) C dL_law_366 rfl rfl ?_
  refine l_iload_n (i := 3) C dL_law_367 rfl rfl ?_
  refine l_iconst (v := 1) C dL_law_368 (by decide) ?_
  refine l_iadd C dL_law_369 ?_
  refine l_sld C (hi 1 (by decide)) dL_law_370 ?_
  refine l_aload_n (i := 0) C dL_law_371 rfl rfl ?_
  refine l_iload_n (i := 3) C dL_law_372 rfl rfl ?_
  refine l_iconst (v := 2) C dL_law_373 (by decide) ?_
  refine l_iadd C dL_law_374 ?_
  refine l_sld C (hi 2 (by decide)) dL_law_375 ?_
  refine l_callX (valc := vi) (r := r) [.int (yx Y (x3 + (1 : Int32)).toNatClampNeg), .int (yx Y (x3 + (2 : Int32)).toNatClampNeg)] [] C lf_37 lv_X6_wall (fun E => c_X6_wall E 0 (yx Y (x3 + (1 : Int32)).toNatClampNeg) (yx Y (x3 + (2 : Int32)).toNatClampNeg) rfl h ex) (by decide) (by decide) rfl rfl (Nat.le_of_ble_eq_true rfl) dL_law_376 ?_
  refine l_aload_n (i := 2) C dL_law_379 rfl rfl ?_
  refine l_aload_n (i := 0) C dL_law_380 rfl rfl ?_
  refine l_iload_n (i := 3) C dL_law_381 rfl rfl ?_
  refine l_iconst (v := 1) C dL_law_382 (by decide) ?_
  refine l_iadd C dL_law_383 ?_
  refine l_sld C (hi 1 (by decide)) dL_law_384 ?_
  refine l_aload_n (i := 0) C dL_law_385 rfl rfl ?_
  refine l_iload_n (i := 3) C dL_law_386 rfl rfl ?_
  refine l_iconst (v := 2) C dL_law_387 (by decide) ?_
  refine l_iadd C dL_law_388 ?_
  refine l_sld C (hi 2 (by decide)) dL_law_389 ?_
  refine l_callM (valc := vi) (r := r) [.int (yx Y (x3 + (1 : Int32)).toNatClampNeg), .int (yx Y (x3 + (2 : Int32)).toNatClampNeg)] [.int r] C lf_40 lv_X7_wall (fun E => c_X7_wall E 0 (yx Y (x3 + (1 : Int32)).toNatClampNeg) (yx Y (x3 + (2 : Int32)).toNatClampNeg) rfl k em) (by decide) (by decide) rfl rfl (Nat.le_of_ble_eq_true rfl) dL_law_390 ?_
  refine l_ieq C 1231 dL_law_393 (by decide) ?_
  exact q h1 k1 hI1
set_option maxHeartbeats 4000000 in
set_option maxRecDepth 100000 in
theorem law_6 {Y : Yx} (C : OL Y) (Inv : Hp → Hp → Prop) (st_where : ∀ a b : Int32, SP Inv (fun h => F_X6_where 0 a b h) (fun k => F_X7_where 0 a b k)) {x3 : Int32} (hi : ∀ j : Nat, j < 6 → vp_in (x3 + nI j) (yn Y)) {h k : Hp} (hI : Inv h k) (q : ∀ h' k', Inv h' k' → GL Y 1231 [some (.ref (yb Y)), some (.ref (yB Y + 0)), some (.ref (yB Y + 75 + 0)), some (.int x3)] [] h' k') : GL Y 398 [some (.ref (yb Y)), some (.ref (yB Y + 0)), some (.ref (yB Y + 75 + 0)), some (.int x3)] [] h k := by
  obtain ⟨r, h1, k1, ex, em, hI1⟩ := st_where (yx Y (x3 + (1 : Int32)).toNatClampNeg) (yx Y (x3 + (2 : Int32)).toNatClampNeg) h k hI
  refine l_aload_n (i := 1) C dL_law_398 rfl rfl ?_
  refine l_aload_n (i := 0) C dL_law_399 rfl rfl ?_
  refine l_iload_n (i := 3) C dL_law_400 rfl rfl ?_
  refine l_iconst (v := 1) C dL_law_401 (by decide) ?_
  refine l_iadd C dL_law_402 ?_
  refine l_sld C (hi 1 (by decide)) dL_law_403 ?_
  refine l_aload_n (i := 0) C dL_law_404 rfl rfl ?_
  refine l_iload_n (i := 3) C dL_law_405 rfl rfl ?_
  refine l_iconst (v := 2) C dL_law_406 (by decide) ?_
  refine l_iadd C dL_law_407 ?_
  refine l_sld C (hi 2 (by decide)) dL_law_408 ?_
  refine l_callX (valc := vi) (r := r) [.int (yx Y (x3 + (1 : Int32)).toNatClampNeg), .int (yx Y (x3 + (2 : Int32)).toNatClampNeg)] [] C lf_41 lv_X6_where (fun E => c_X6_where E 0 (yx Y (x3 + (1 : Int32)).toNatClampNeg) (yx Y (x3 + (2 : Int32)).toNatClampNeg) rfl h ex) (by decide) (by decide) rfl rfl (Nat.le_of_ble_eq_true rfl) dL_law_409 ?_
  refine l_aload_n (i := 2) C dL_law_412 rfl rfl ?_
  refine l_aload_n (i := 0) C dL_law_413 rfl rfl ?_
  refine l_iload_n (i := 3) C dL_law_414 rfl rfl ?_
  refine l_iconst (v := 1) C dL_law_415 (by decide) ?_
  refine l_iadd C dL_law_416 ?_
  refine l_sld C (hi 1 (by decide)) dL_law_417 ?_
  refine l_aload_n (i := 0) C dL_law_418 rfl rfl ?_
  refine l_iload_n (i := 3) C dL_law_419 rfl rfl ?_
  refine l_iconst (v := 2) C dL_law_420 (by decide) ?_
  refine l_iadd C dL_law_421 ?_
  refine l_sld C (hi 2 (by decide)) dL_law_422 ?_
  refine l_callM (valc := vi) (r := r) [.int (yx Y (x3 + (1 : Int32)).toNatClampNeg), .int (yx Y (x3 + (2 : Int32)).toNatClampNeg)] [.int r] C lf_44 lv_X7_where (fun E => c_X7_where E 0 (yx Y (x3 + (1 : Int32)).toNatClampNeg) (yx Y (x3 + (2 : Int32)).toNatClampNeg) rfl k em) (by decide) (by decide) rfl rfl (Nat.le_of_ble_eq_true rfl) dL_law_423 ?_
  refine l_ieq C 1231 dL_law_426 (by decide) ?_
  exact q h1 k1 hI1
set_option maxHeartbeats 4000000 in
set_option maxRecDepth 100000 in
theorem law_7 {Y : Yx} (C : OL Y) (Inv : Hp → Hp → Prop) (st_heard : ∀ a : Int32, SP Inv (fun h => F_X6_heard 0 a h) (fun k => F_X7_heard 0 a k)) {x3 : Int32} (hi : ∀ j : Nat, j < 6 → vp_in (x3 + nI j) (yn Y)) {h k : Hp} (hI : Inv h k) (q : ∀ h' k', Inv h' k' → GL Y 1231 [some (.ref (yb Y)), some (.ref (yB Y + 0)), some (.ref (yB Y + 75 + 0)), some (.int x3)] [] h' k') : GL Y 431 [some (.ref (yb Y)), some (.ref (yB Y + 0)), some (.ref (yB Y + 75 + 0)), some (.int x3)] [] h k := by
  obtain ⟨r, h1, k1, ex, em, hI1⟩ := st_heard (yx Y (x3 + (1 : Int32)).toNatClampNeg) h k hI
  refine l_aload_n (i := 1) C dL_law_431 rfl rfl ?_
  refine l_aload_n (i := 0) C dL_law_432 rfl rfl ?_
  refine l_iload_n (i := 3) C dL_law_433 rfl rfl ?_
  refine l_iconst (v := 1) C dL_law_434 (by decide) ?_
  refine l_iadd C dL_law_435 ?_
  refine l_sld C (hi 1 (by decide)) dL_law_436 ?_
  refine l_callX (valc := vi) (r := r) [.int (yx Y (x3 + (1 : Int32)).toNatClampNeg)] [] C lf_45 lv_X6_heard (fun E => c_X6_heard E 0 (yx Y (x3 + (1 : Int32)).toNatClampNeg) rfl h ex) (by decide) (by decide) rfl rfl (Nat.le_of_ble_eq_true rfl) dL_law_437 ?_
  refine l_aload_n (i := 2) C dL_law_440 rfl rfl ?_
  refine l_aload_n (i := 0) C dL_law_441 rfl rfl ?_
  refine l_iload_n (i := 3) C dL_law_442 rfl rfl ?_
  refine l_iconst (v := 1) C dL_law_443 (by decide) ?_
  refine l_iadd C dL_law_444 ?_
  refine l_sld C (hi 1 (by decide)) dL_law_445 ?_
  refine l_callM (valc := vi) (r := r) [.int (yx Y (x3 + (1 : Int32)).toNatClampNeg)] [.int r] C lf_48 lv_X7_heard (fun E => c_X7_heard E 0 (yx Y (x3 + (1 : Int32)).toNatClampNeg) rfl k em) (by decide) (by decide) rfl rfl (Nat.le_of_ble_eq_true rfl) dL_law_446 ?_
  refine l_ieq C 1231 dL_law_449 (by decide) ?_
  exact q h1 k1 hI1
set_option maxHeartbeats 4000000 in
set_option maxRecDepth 100000 in
theorem law_8 {Y : Yx} (C : OL Y) (Inv : Hp → Hp → Prop) (st_layer : ∀ a b : Int32, SP Inv (fun h => F_X6_layer 0 a b h) (fun k => F_X7_layer 0 a b k)) {x3 : Int32} (hi : ∀ j : Nat, j < 6 → vp_in (x3 + nI j) (yn Y)) {h k : Hp} (hI : Inv h k) (q : ∀ h' k', Inv h' k' → GL Y 1231 [some (.ref (yb Y)), some (.ref (yB Y + 0)), some (.ref (yB Y + 75 + 0)), some (.int x3)] [] h' k') : GL Y 454 [some (.ref (yb Y)), some (.ref (yB Y + 0)), some (.ref (yB Y + 75 + 0)), some (.int x3)] [] h k := by
  obtain ⟨r, h1, k1, ex, em, hI1⟩ := st_layer (yx Y (x3 + (1 : Int32)).toNatClampNeg) (yx Y (x3 + (2 : Int32)).toNatClampNeg) h k hI
  refine l_aload_n (i := 1) C dL_law_454 rfl rfl ?_
  refine l_aload_n (i := 0) C dL_law_455 rfl rfl ?_
  refine l_iload_n (i := 3) C dL_law_456 rfl rfl ?_
  refine l_iconst (v := 1) C dL_law_457 (by decide) ?_
  refine l_iadd C dL_law_458 ?_
  refine l_sld C (hi 1 (by decide)) dL_law_459 ?_
  refine l_aload_n (i := 0) C dL_law_460 rfl rfl ?_
  refine l_iload_n (i := 3) C dL_law_461 rfl rfl ?_
  refine l_iconst (v := 2) C dL_law_462 (by decide) ?_
  refine l_iadd C dL_law_463 ?_
  refine l_sld C (hi 2 (by decide)) dL_law_464 ?_
  refine l_callX (valc := vi) (r := r) [.int (yx Y (x3 + (1 : Int32)).toNatClampNeg), .int (yx Y (x3 + (2 : Int32)).toNatClampNeg)] [] C lf_49 lv_X6_layer (fun E => c_X6_layer E 0 (yx Y (x3 + (1 : Int32)).toNatClampNeg) (yx Y (x3 + (2 : Int32)).toNatClampNeg) rfl h ex) (by decide) (by decide) rfl rfl (Nat.le_of_ble_eq_true rfl) dL_law_465 ?_
  refine l_aload_n (i := 2) C dL_law_468 rfl rfl ?_
  refine l_aload_n (i := 0) C dL_law_469 rfl rfl ?_
  refine l_iload_n (i := 3) C dL_law_470 rfl rfl ?_
  refine l_iconst (v := 1) C dL_law_471 (by decide) ?_
  refine l_iadd C dL_law_472 ?_
  refine l_sld C (hi 1 (by decide)) dL_law_473 ?_
  refine l_aload_n (i := 0) C dL_law_474 rfl rfl ?_
  refine l_iload_n (i := 3) C dL_law_475 rfl rfl ?_
  refine l_iconst (v := 2) C dL_law_476 (by decide) ?_
  refine l_iadd C dL_law_477 ?_
  refine l_sld C (hi 2 (by decide)) dL_law_478 ?_
  refine l_callM (valc := vi) (r := r) [.int (yx Y (x3 + (1 : Int32)).toNatClampNeg), .int (yx Y (x3 + (2 : Int32)).toNatClampNeg)] [.int r] C lf_52 lv_X7_layer (fun E => c_X7_layer E 0 (yx Y (x3 + (1 : Int32)).toNatClampNeg) (yx Y (x3 + (2 : Int32)).toNatClampNeg) rfl k em) (by decide) (by decide) rfl rfl (Nat.le_of_ble_eq_true rfl) dL_law_479 ?_
  refine l_ieq C 1231 dL_law_482 (by decide) ?_
  exact q h1 k1 hI1
set_option maxHeartbeats 4000000 in
set_option maxRecDepth 100000 in
theorem law_9 {Y : Yx} (C : OL Y) (Inv : Hp → Hp → Prop) (st_deep : ∀ a b : Int32, SP Inv (fun h => F_X6_deep 0 a b h) (fun k => F_X7_deep 0 a b k)) {x3 : Int32} (hi : ∀ j : Nat, j < 6 → vp_in (x3 + nI j) (yn Y)) {h k : Hp} (hI : Inv h k) (q : ∀ h' k', Inv h' k' → GL Y 1231 [some (.ref (yb Y)), some (.ref (yB Y + 0)), some (.ref (yB Y + 75 + 0)), some (.int x3)] [] h' k') : GL Y 487 [some (.ref (yb Y)), some (.ref (yB Y + 0)), some (.ref (yB Y + 75 + 0)), some (.int x3)] [] h k := by
  obtain ⟨r, h1, k1, ex, em, hI1⟩ := st_deep (yx Y (x3 + (1 : Int32)).toNatClampNeg) (yx Y (x3 + (2 : Int32)).toNatClampNeg) h k hI
  refine l_aload_n (i := 1) C dL_law_487 rfl rfl ?_
  refine l_aload_n (i := 0) C dL_law_488 rfl rfl ?_
  refine l_iload_n (i := 3) C dL_law_489 rfl rfl ?_
  refine l_iconst (v := 1) C dL_law_490 (by decide) ?_
  refine l_iadd C dL_law_491 ?_
  refine l_sld C (hi 1 (by decide)) dL_law_492 ?_
  refine l_aload_n (i := 0) C dL_law_493 rfl rfl ?_
  refine l_iload_n (i := 3) C dL_law_494 rfl rfl ?_
  refine l_iconst (v := 2) C dL_law_495 (by decide) ?_
  refine l_iadd C dL_law_496 ?_
  refine l_sld C (hi 2 (by decide)) dL_law_497 ?_
  refine l_callX (valc := vi) (r := r) [.int (yx Y (x3 + (1 : Int32)).toNatClampNeg), .int (yx Y (x3 + (2 : Int32)).toNatClampNeg)] [] C lf_53 lv_X6_deep (fun E => c_X6_deep E 0 (yx Y (x3 + (1 : Int32)).toNatClampNeg) (yx Y (x3 + (2 : Int32)).toNatClampNeg) rfl h ex) (by decide) (by decide) rfl rfl (Nat.le_of_ble_eq_true rfl) dL_law_498 ?_
  refine l_aload_n (i := 2) C dL_law_501 rfl rfl ?_
  refine l_aload_n (i := 0) C dL_law_502 rfl rfl ?_
  refine l_iload_n (i := 3) C dL_law_503 rfl rfl ?_
  refine l_iconst (v := 1) C dL_law_504 (by decide) ?_
  refine l_iadd C dL_law_505 ?_
  refine l_sld C (hi 1 (by decide)) dL_law_506 ?_
  refine l_aload_n (i := 0) C dL_law_507 rfl rfl ?_
  refine l_iload_n (i := 3) C dL_law_508 rfl rfl ?_
  refine l_iconst (v := 2) C dL_law_509 (by decide) ?_
  refine l_iadd C dL_law_510 ?_
  refine l_sld C (hi 2 (by decide)) dL_law_511 ?_
  refine l_callM (valc := vi) (r := r) [.int (yx Y (x3 + (1 : Int32)).toNatClampNeg), .int (yx Y (x3 + (2 : Int32)).toNatClampNeg)] [.int r] C lf_56 lv_X7_deep (fun E => c_X7_deep E 0 (yx Y (x3 + (1 : Int32)).toNatClampNeg) (yx Y (x3 + (2 : Int32)).toNatClampNeg) rfl k em) (by decide) (by decide) rfl rfl (Nat.le_of_ble_eq_true rfl) dL_law_512 ?_
  refine l_ieq C 1231 dL_law_515 (by decide) ?_
  exact q h1 k1 hI1
set_option maxHeartbeats 4000000 in
set_option maxRecDepth 100000 in
theorem law_10 {Y : Yx} (C : OL Y) (Inv : Hp → Hp → Prop) (st_cuts : ∀ a b c d e : Int32, SP Inv (fun h => F_X6_cuts 0 a b c d e h) (fun k => F_X7_cuts 0 a b c d e k)) {x3 : Int32} (hi : ∀ j : Nat, j < 6 → vp_in (x3 + nI j) (yn Y)) {h k : Hp} (hI : Inv h k) (q : ∀ h' k', Inv h' k' → GL Y 1231 [some (.ref (yb Y)), some (.ref (yB Y + 0)), some (.ref (yB Y + 75 + 0)), some (.int x3)] [] h' k') : GL Y 520 [some (.ref (yb Y)), some (.ref (yB Y + 0)), some (.ref (yB Y + 75 + 0)), some (.int x3)] [] h k := by
  obtain ⟨r, h1, k1, ex, em, hI1⟩ := st_cuts (yx Y (x3 + (1 : Int32)).toNatClampNeg) (yx Y (x3 + (2 : Int32)).toNatClampNeg) (yx Y (x3 + (3 : Int32)).toNatClampNeg) (yx Y (x3 + (4 : Int32)).toNatClampNeg) (yx Y (x3 + (5 : Int32)).toNatClampNeg) h k hI
  refine l_aload_n (i := 1) C dL_law_520 rfl rfl ?_
  refine l_aload_n (i := 0) C dL_law_521 rfl rfl ?_
  refine l_iload_n (i := 3) C dL_law_522 rfl rfl ?_
  refine l_iconst (v := 1) C dL_law_523 (by decide) ?_
  refine l_iadd C dL_law_524 ?_
  refine l_sld C (hi 1 (by decide)) dL_law_525 ?_
  refine l_aload_n (i := 0) C dL_law_526 rfl rfl ?_
  refine l_iload_n (i := 3) C dL_law_527 rfl rfl ?_
  refine l_iconst (v := 2) C dL_law_528 (by decide) ?_
  refine l_iadd C dL_law_529 ?_
  refine l_sld C (hi 2 (by decide)) dL_law_530 ?_
  refine l_aload_n (i := 0) C dL_law_531 rfl rfl ?_
  refine l_iload_n (i := 3) C dL_law_532 rfl rfl ?_
  refine l_iconst (v := 3) C dL_law_533 (by decide) ?_
  refine l_iadd C dL_law_534 ?_
  refine l_sld C (hi 3 (by decide)) dL_law_535 ?_
  refine l_aload_n (i := 0) C dL_law_536 rfl rfl ?_
  refine l_iload_n (i := 3) C dL_law_537 rfl rfl ?_
  refine l_iconst (v := 4) C dL_law_538 (by decide) ?_
  refine l_iadd C dL_law_539 ?_
  refine l_sld C (hi 4 (by decide)) dL_law_540 ?_
  refine l_aload_n (i := 0) C dL_law_541 rfl rfl ?_
  refine l_iload_n (i := 3) C dL_law_542 rfl rfl ?_
  refine l_iconst (v := 5) C dL_law_543 (by decide) ?_
  refine l_iadd C dL_law_544 ?_
  refine l_sld C (hi 5 (by decide)) dL_law_545 ?_
  refine l_callX (valc := vi) (r := r) [.int (yx Y (x3 + (1 : Int32)).toNatClampNeg), .int (yx Y (x3 + (2 : Int32)).toNatClampNeg), .int (yx Y (x3 + (3 : Int32)).toNatClampNeg), .int (yx Y (x3 + (4 : Int32)).toNatClampNeg), .int (yx Y (x3 + (5 : Int32)).toNatClampNeg)] [] C lf_57 lv_X6_cuts (fun E => c_X6_cuts E 0 (yx Y (x3 + (1 : Int32)).toNatClampNeg) (yx Y (x3 + (2 : Int32)).toNatClampNeg) (yx Y (x3 + (3 : Int32)).toNatClampNeg) (yx Y (x3 + (4 : Int32)).toNatClampNeg) (yx Y (x3 + (5 : Int32)).toNatClampNeg) rfl h ex) (by decide) (by decide) rfl rfl (Nat.le_of_ble_eq_true rfl) dL_law_546 ?_
  refine l_aload_n (i := 2) C dL_law_549 rfl rfl ?_
  refine l_aload_n (i := 0) C dL_law_550 rfl rfl ?_
  refine l_iload_n (i := 3) C dL_law_551 rfl rfl ?_
  refine l_iconst (v := 1) C dL_law_552 (by decide) ?_
  refine l_iadd C dL_law_553 ?_
  refine l_sld C (hi 1 (by decide)) dL_law_554 ?_
  refine l_aload_n (i := 0) C dL_law_555 rfl rfl ?_
  refine l_iload_n (i := 3) C dL_law_556 rfl rfl ?_
  refine l_iconst (v := 2) C dL_law_557 (by decide) ?_
  refine l_iadd C dL_law_558 ?_
  refine l_sld C (hi 2 (by decide)) dL_law_559 ?_
  refine l_aload_n (i := 0) C dL_law_560 rfl rfl ?_
  refine l_iload_n (i := 3) C dL_law_561 rfl rfl ?_
  refine l_iconst (v := 3) C dL_law_562 (by decide) ?_
  refine l_iadd C dL_law_563 ?_
  refine l_sld C (hi 3 (by decide)) dL_law_564 ?_
  refine l_aload_n (i := 0) C dL_law_565 rfl rfl ?_
  refine l_iload_n (i := 3) C dL_law_566 rfl rfl ?_
  refine l_iconst (v := 4) C dL_law_567 (by decide) ?_
  refine l_iadd C dL_law_568 ?_
  refine l_sld C (hi 4 (by decide)) dL_law_569 ?_
  refine l_aload_n (i := 0) C dL_law_570 rfl rfl ?_
  refine l_iload_n (i := 3) C dL_law_571 rfl rfl ?_
  refine l_iconst (v := 5) C dL_law_572 (by decide) ?_
  refine l_iadd C dL_law_573 ?_
  refine l_sld C (hi 5 (by decide)) dL_law_574 ?_
  refine l_callM (valc := vi) (r := r) [.int (yx Y (x3 + (1 : Int32)).toNatClampNeg), .int (yx Y (x3 + (2 : Int32)).toNatClampNeg), .int (yx Y (x3 + (3 : Int32)).toNatClampNeg), .int (yx Y (x3 + (4 : Int32)).toNatClampNeg), .int (yx Y (x3 + (5 : Int32)).toNatClampNeg)] [.int r] C lf_61 lv_X7_cuts (fun E => c_X7_cuts E 0 (yx Y (x3 + (1 : Int32)).toNatClampNeg) (yx Y (x3 + (2 : Int32)).toNatClampNeg) (yx Y (x3 + (3 : Int32)).toNatClampNeg) (yx Y (x3 + (4 : Int32)).toNatClampNeg) (yx Y (x3 + (5 : Int32)).toNatClampNeg) rfl k em) (by decide) (by decide) rfl rfl (Nat.le_of_ble_eq_true rfl) dL_law_575 ?_
  refine l_ieq C 1231 dL_law_578 (by decide) ?_
  exact q h1 k1 hI1
set_option maxHeartbeats 4000000 in
set_option maxRecDepth 100000 in
theorem law_11 {Y : Yx} (C : OL Y) (Inv : Hp → Hp → Prop) (st_spare : ∀ a b c : Int32, SP Inv (fun h => F_X6_spare 0 a b c h) (fun k => F_X7_spare 0 a b c k)) {x3 : Int32} (hi : ∀ j : Nat, j < 6 → vp_in (x3 + nI j) (yn Y)) {h k : Hp} (hI : Inv h k) (q : ∀ h' k', Inv h' k' → GL Y 1231 [some (.ref (yb Y)), some (.ref (yB Y + 0)), some (.ref (yB Y + 75 + 0)), some (.int x3)] [] h' k') : GL Y 583 [some (.ref (yb Y)), some (.ref (yB Y + 0)), some (.ref (yB Y + 75 + 0)), some (.int x3)] [] h k := by
  obtain ⟨r, h1, k1, ex, em, hI1⟩ := st_spare (yx Y (x3 + (1 : Int32)).toNatClampNeg) (yx Y (x3 + (2 : Int32)).toNatClampNeg) (yx Y (x3 + (3 : Int32)).toNatClampNeg) h k hI
  refine l_aload_n (i := 1) C dL_law_583 rfl rfl ?_
  refine l_aload_n (i := 0) C dL_law_584 rfl rfl ?_
  refine l_iload_n (i := 3) C dL_law_585 rfl rfl ?_
  refine l_iconst (v := 1) C dL_law_586 (by decide) ?_
  refine l_iadd C dL_law_587 ?_
  refine l_sld C (hi 1 (by decide)) dL_law_588 ?_
  refine l_aload_n (i := 0) C dL_law_589 rfl rfl ?_
  refine l_iload_n (i := 3) C dL_law_590 rfl rfl ?_
  refine l_iconst (v := 2) C dL_law_591 (by decide) ?_
  refine l_iadd C dL_law_592 ?_
  refine l_sld C (hi 2 (by decide)) dL_law_593 ?_
  refine l_aload_n (i := 0) C dL_law_594 rfl rfl ?_
  refine l_iload_n (i := 3) C dL_law_595 rfl rfl ?_
  refine l_iconst (v := 3) C dL_law_596 (by decide) ?_
  refine l_iadd C dL_law_597 ?_
  refine l_sld C (hi 3 (by decide)) dL_law_598 ?_
  refine l_callX (valc := vi) (r := r) [.int (yx Y (x3 + (1 : Int32)).toNatClampNeg), .int (yx Y (x3 + (2 : Int32)).toNatClampNeg), .int (yx Y (x3 + (3 : Int32)).toNatClampNeg)] [] C lf_62 lv_X6_spare (fun E => c_X6_spare E 0 (yx Y (x3 + (1 : Int32)).toNatClampNeg) (yx Y (x3 + (2 : Int32)).toNatClampNeg) (yx Y (x3 + (3 : Int32)).toNatClampNeg) rfl h ex) (by decide) (by decide) rfl rfl (Nat.le_of_ble_eq_true rfl) dL_law_599 ?_
  refine l_aload_n (i := 2) C dL_law_602 rfl rfl ?_
  refine l_aload_n (i := 0) C dL_law_603 rfl rfl ?_
  refine l_iload_n (i := 3) C dL_law_604 rfl rfl ?_
  refine l_iconst (v := 1) C dL_law_605 (by decide) ?_
  refine l_iadd C dL_law_606 ?_
  refine l_sld C (hi 1 (by decide)) dL_law_607 ?_
  refine l_aload_n (i := 0) C dL_law_608 rfl rfl ?_
  refine l_iload_n (i := 3) C dL_law_609 rfl rfl ?_
  refine l_iconst (v := 2) C dL_law_610 (by decide) ?_
  refine l_iadd C dL_law_611 ?_
  refine l_sld C (hi 2 (by decide)) dL_law_612 ?_
  refine l_aload_n (i := 0) C dL_law_613 rfl rfl ?_
  refine l_iload_n (i := 3) C dL_law_614 rfl rfl ?_
  refine l_iconst (v := 3) C dL_law_615 (by decide) ?_
  refine l_iadd C dL_law_616 ?_
  refine l_sld C (hi 3 (by decide)) dL_law_617 ?_
  refine l_callM (valc := vi) (r := r) [.int (yx Y (x3 + (1 : Int32)).toNatClampNeg), .int (yx Y (x3 + (2 : Int32)).toNatClampNeg), .int (yx Y (x3 + (3 : Int32)).toNatClampNeg)] [.int r] C lf_65 lv_X7_spare (fun E => c_X7_spare E 0 (yx Y (x3 + (1 : Int32)).toNatClampNeg) (yx Y (x3 + (2 : Int32)).toNatClampNeg) (yx Y (x3 + (3 : Int32)).toNatClampNeg) rfl k em) (by decide) (by decide) rfl rfl (Nat.le_of_ble_eq_true rfl) dL_law_618 ?_
  refine l_ieq C 1231 dL_law_621 (by decide) ?_
  exact q h1 k1 hI1
set_option maxHeartbeats 4000000 in
set_option maxRecDepth 100000 in
theorem law_12 {Y : Yx} (C : OL Y) (Inv : Hp → Hp → Prop) (st_shelve : ∀ a : Int32, SP Inv (fun h => F_X6_shelve 0 a h) (fun k => F_X7_shelve 0 a k)) {x3 : Int32} (hi : ∀ j : Nat, j < 6 → vp_in (x3 + nI j) (yn Y)) {h k : Hp} (hI : Inv h k) (q : ∀ h' k', Inv h' k' → GL Y 1231 [some (.ref (yb Y)), some (.ref (yB Y + 0)), some (.ref (yB Y + 75 + 0)), some (.int x3)] [] h' k') : GL Y 626 [some (.ref (yb Y)), some (.ref (yB Y + 0)), some (.ref (yB Y + 75 + 0)), some (.int x3)] [] h k := by
  obtain ⟨r, h1, k1, ex, em, hI1⟩ := st_shelve (yx Y (x3 + (1 : Int32)).toNatClampNeg) h k hI
  refine l_aload_n (i := 1) C dL_law_626 rfl rfl ?_
  refine l_aload_n (i := 0) C dL_law_627 rfl rfl ?_
  refine l_iload_n (i := 3) C dL_law_628 rfl rfl ?_
  refine l_iconst (v := 1) C dL_law_629 (by decide) ?_
  refine l_iadd C dL_law_630 ?_
  refine l_sld C (hi 1 (by decide)) dL_law_631 ?_
  refine l_callX (valc := vi) (r := r) [.int (yx Y (x3 + (1 : Int32)).toNatClampNeg)] [] C lf_66 lv_X6_shelve (fun E => c_X6_shelve E 0 (yx Y (x3 + (1 : Int32)).toNatClampNeg) rfl h ex) (by decide) (by decide) rfl rfl (Nat.le_of_ble_eq_true rfl) dL_law_632 ?_
  refine l_aload_n (i := 2) C dL_law_635 rfl rfl ?_
  refine l_aload_n (i := 0) C dL_law_636 rfl rfl ?_
  refine l_iload_n (i := 3) C dL_law_637 rfl rfl ?_
  refine l_iconst (v := 1) C dL_law_638 (by decide) ?_
  refine l_iadd C dL_law_639 ?_
  refine l_sld C (hi 1 (by decide)) dL_law_640 ?_
  refine l_callM (valc := vi) (r := r) [.int (yx Y (x3 + (1 : Int32)).toNatClampNeg)] [.int r] C lf_69 lv_X7_shelve (fun E => c_X7_shelve E 0 (yx Y (x3 + (1 : Int32)).toNatClampNeg) rfl k em) (by decide) (by decide) rfl rfl (Nat.le_of_ble_eq_true rfl) dL_law_641 ?_
  refine l_ieq C 1231 dL_law_644 (by decide) ?_
  exact q h1 k1 hI1
set_option maxHeartbeats 4000000 in
set_option maxRecDepth 100000 in
theorem law_13 {Y : Yx} (C : OL Y) (Inv : Hp → Hp → Prop) (st_common : SP Inv (fun h => F_X6_common 0  h) (fun k => F_X7_common 0  k)) {x3 : Int32} (hi : ∀ j : Nat, j < 6 → vp_in (x3 + nI j) (yn Y)) {h k : Hp} (hI : Inv h k) (q : ∀ h' k', Inv h' k' → GL Y 1231 [some (.ref (yb Y)), some (.ref (yB Y + 0)), some (.ref (yB Y + 75 + 0)), some (.int x3)] [] h' k') : GL Y 649 [some (.ref (yb Y)), some (.ref (yB Y + 0)), some (.ref (yB Y + 75 + 0)), some (.int x3)] [] h k := by
  obtain ⟨r, h1, k1, ex, em, hI1⟩ := st_common  h k hI
  refine l_aload_n (i := 1) C dL_law_649 rfl rfl ?_
  refine l_callX (valc := vi) (r := r) [] [] C lf_70 lv_X6_common (fun E => c_X6_common E 0  rfl h ex) (by decide) (by decide) rfl rfl (Nat.le_of_ble_eq_true rfl) dL_law_650 ?_
  refine l_aload_n (i := 2) C dL_law_653 rfl rfl ?_
  refine l_callM (valc := vi) (r := r) [] [.int r] C lf_74 lv_X7_common (fun E => c_X7_common E 0  rfl k em) (by decide) (by decide) rfl rfl (Nat.le_of_ble_eq_true rfl) dL_law_654 ?_
  refine l_ieq C 1231 dL_law_657 (by decide) ?_
  exact q h1 k1 hI1
set_option maxHeartbeats 4000000 in
set_option maxRecDepth 100000 in
theorem law_14 {Y : Yx} (C : OL Y) (Inv : Hp → Hp → Prop) (st_alone : ∀ a : Int32, SP Inv (fun h => F_X6_alone 0 a h) (fun k => F_X7_alone 0 a k)) {x3 : Int32} (hi : ∀ j : Nat, j < 6 → vp_in (x3 + nI j) (yn Y)) {h k : Hp} (hI : Inv h k) (q : ∀ h' k', Inv h' k' → GL Y 1231 [some (.ref (yb Y)), some (.ref (yB Y + 0)), some (.ref (yB Y + 75 + 0)), some (.int x3)] [] h' k') : GL Y 662 [some (.ref (yb Y)), some (.ref (yB Y + 0)), some (.ref (yB Y + 75 + 0)), some (.int x3)] [] h k := by
  obtain ⟨r, h1, k1, ex, em, hI1⟩ := st_alone (yx Y (x3 + (1 : Int32)).toNatClampNeg) h k hI
  refine l_aload_n (i := 1) C dL_law_662 rfl rfl ?_
  refine l_aload_n (i := 0) C dL_law_663 rfl rfl ?_
  refine l_iload_n (i := 3) C dL_law_664 rfl rfl ?_
  refine l_iconst (v := 1) C dL_law_665 (by decide) ?_
  refine l_iadd C dL_law_666 ?_
  refine l_sld C (hi 1 (by decide)) dL_law_667 ?_
  refine l_callX (valc := vi) (r := r) [.int (yx Y (x3 + (1 : Int32)).toNatClampNeg)] [] C lf_75 lv_X6_alone (fun E => c_X6_alone E 0 (yx Y (x3 + (1 : Int32)).toNatClampNeg) rfl h ex) (by decide) (by decide) rfl rfl (Nat.le_of_ble_eq_true rfl) dL_law_668 ?_
  refine l_aload_n (i := 2) C dL_law_671 rfl rfl ?_
  refine l_aload_n (i := 0) C dL_law_672 rfl rfl ?_
  refine l_iload_n (i := 3) C dL_law_673 rfl rfl ?_
  refine l_iconst (v := 1) C dL_law_674 (by decide) ?_
  refine l_iadd C dL_law_675 ?_
  refine l_sld C (hi 1 (by decide)) dL_law_676 ?_
  refine l_callM (valc := vi) (r := r) [.int (yx Y (x3 + (1 : Int32)).toNatClampNeg)] [.int r] C lf_78 lv_X7_alone (fun E => c_X7_alone E 0 (yx Y (x3 + (1 : Int32)).toNatClampNeg) rfl k em) (by decide) (by decide) rfl rfl (Nat.le_of_ble_eq_true rfl) dL_law_677 ?_
  refine l_ieq C 1231 dL_law_680 (by decide) ?_
  exact q h1 k1 hI1
set_option maxHeartbeats 4000000 in
set_option maxRecDepth 100000 in
theorem law_15 {Y : Yx} (C : OL Y) (Inv : Hp → Hp → Prop) (st_reading : ∀ a b c : Int32, SP Inv (fun h => F_X6_reading 0 a b c h) (fun k => F_X7_reading 0 a b c k)) {x3 : Int32} (hi : ∀ j : Nat, j < 6 → vp_in (x3 + nI j) (yn Y)) {h k : Hp} (hI : Inv h k) (q : ∀ h' k', Inv h' k' → GL Y 1231 [some (.ref (yb Y)), some (.ref (yB Y + 0)), some (.ref (yB Y + 75 + 0)), some (.int x3)] [] h' k') : GL Y 685 [some (.ref (yb Y)), some (.ref (yB Y + 0)), some (.ref (yB Y + 75 + 0)), some (.int x3)] [] h k := by
  obtain ⟨r, h1, k1, ex, em, hI1⟩ := st_reading (yx Y (x3 + (1 : Int32)).toNatClampNeg) (yx Y (x3 + (2 : Int32)).toNatClampNeg) (yx Y (x3 + (3 : Int32)).toNatClampNeg) h k hI
  refine l_aload_n (i := 1) C dL_law_685 rfl rfl ?_
  refine l_aload_n (i := 0) C dL_law_686 rfl rfl ?_
  refine l_iload_n (i := 3) C dL_law_687 rfl rfl ?_
  refine l_iconst (v := 1) C dL_law_688 (by decide) ?_
  refine l_iadd C dL_law_689 ?_
  refine l_sld C (hi 1 (by decide)) dL_law_690 ?_
  refine l_aload_n (i := 0) C dL_law_691 rfl rfl ?_
  refine l_iload_n (i := 3) C dL_law_692 rfl rfl ?_
  refine l_iconst (v := 2) C dL_law_693 (by decide) ?_
  refine l_iadd C dL_law_694 ?_
  refine l_sld C (hi 2 (by decide)) dL_law_695 ?_
  refine l_aload_n (i := 0) C dL_law_696 rfl rfl ?_
  refine l_iload_n (i := 3) C dL_law_697 rfl rfl ?_
  refine l_iconst (v := 3) C dL_law_698 (by decide) ?_
  refine l_iadd C dL_law_699 ?_
  refine l_sld C (hi 3 (by decide)) dL_law_700 ?_
  refine l_callX (valc := vi) (r := r) [.int (yx Y (x3 + (1 : Int32)).toNatClampNeg), .int (yx Y (x3 + (2 : Int32)).toNatClampNeg), .int (yx Y (x3 + (3 : Int32)).toNatClampNeg)] [] C lf_79 lv_X6_reading (fun E => c_X6_reading E 0 (yx Y (x3 + (1 : Int32)).toNatClampNeg) (yx Y (x3 + (2 : Int32)).toNatClampNeg) (yx Y (x3 + (3 : Int32)).toNatClampNeg) rfl h ex) (by decide) (by decide) rfl rfl (Nat.le_of_ble_eq_true rfl) dL_law_701 ?_
  refine l_aload_n (i := 2) C dL_law_704 rfl rfl ?_
  refine l_aload_n (i := 0) C dL_law_705 rfl rfl ?_
  refine l_iload_n (i := 3) C dL_law_706 rfl rfl ?_
  refine l_iconst (v := 1) C dL_law_707 (by decide) ?_
  refine l_iadd C dL_law_708 ?_
  refine l_sld C (hi 1 (by decide)) dL_law_709 ?_
  refine l_aload_n (i := 0) C dL_law_710 rfl rfl ?_
  refine l_iload_n (i := 3) C dL_law_711 rfl rfl ?_
  refine l_iconst (v := 2) C dL_law_712 (by decide) ?_
  refine l_iadd C dL_law_713 ?_
  refine l_sld C (hi 2 (by decide)) dL_law_714 ?_
  refine l_aload_n (i := 0) C dL_law_715 rfl rfl ?_
  refine l_iload_n (i := 3) C dL_law_716 rfl rfl ?_
  refine l_iconst (v := 3) C dL_law_717 (by decide) ?_
  refine l_iadd C dL_law_718 ?_
  refine l_sld C (hi 3 (by decide)) dL_law_719 ?_
  refine l_callM (valc := vi) (r := r) [.int (yx Y (x3 + (1 : Int32)).toNatClampNeg), .int (yx Y (x3 + (2 : Int32)).toNatClampNeg), .int (yx Y (x3 + (3 : Int32)).toNatClampNeg)] [.int r] C lf_82 lv_X7_reading (fun E => c_X7_reading E 0 (yx Y (x3 + (1 : Int32)).toNatClampNeg) (yx Y (x3 + (2 : Int32)).toNatClampNeg) (yx Y (x3 + (3 : Int32)).toNatClampNeg) rfl k em) (by decide) (by decide) rfl rfl (Nat.le_of_ble_eq_true rfl) dL_law_720 ?_
  refine l_ieq C 1231 dL_law_723 (by decide) ?_
  exact q h1 k1 hI1
set_option maxHeartbeats 4000000 in
set_option maxRecDepth 100000 in
theorem law_16 {Y : Yx} (C : OL Y) (Inv : Hp → Hp → Prop) (st_back : ∀ a : Int32, SP Inv (fun h => F_X6_back 0 a h) (fun k => F_X7_back 0 a k)) {x3 : Int32} (hi : ∀ j : Nat, j < 6 → vp_in (x3 + nI j) (yn Y)) {h k : Hp} (hI : Inv h k) (q : ∀ h' k', Inv h' k' → GL Y 1231 [some (.ref (yb Y)), some (.ref (yB Y + 0)), some (.ref (yB Y + 75 + 0)), some (.int x3)] [] h' k') : GL Y 728 [some (.ref (yb Y)), some (.ref (yB Y + 0)), some (.ref (yB Y + 75 + 0)), some (.int x3)] [] h k := by
  obtain ⟨r, h1, k1, ex, em, hI1⟩ := st_back (yx Y (x3 + (1 : Int32)).toNatClampNeg) h k hI
  refine l_aload_n (i := 1) C dL_law_728 rfl rfl ?_
  refine l_aload_n (i := 0) C dL_law_729 rfl rfl ?_
  refine l_iload_n (i := 3) C dL_law_730 rfl rfl ?_
  refine l_iconst (v := 1) C dL_law_731 (by decide) ?_
  refine l_iadd C dL_law_732 ?_
  refine l_sld C (hi 1 (by decide)) dL_law_733 ?_
  refine l_callX (valc := vi) (r := r) [.int (yx Y (x3 + (1 : Int32)).toNatClampNeg)] [] C lf_83 lv_X6_back (fun E => c_X6_back E 0 (yx Y (x3 + (1 : Int32)).toNatClampNeg) rfl h ex) (by decide) (by decide) rfl rfl (Nat.le_of_ble_eq_true rfl) dL_law_734 ?_
  refine l_aload_n (i := 2) C dL_law_737 rfl rfl ?_
  refine l_aload_n (i := 0) C dL_law_738 rfl rfl ?_
  refine l_iload_n (i := 3) C dL_law_739 rfl rfl ?_
  refine l_iconst (v := 1) C dL_law_740 (by decide) ?_
  refine l_iadd C dL_law_741 ?_
  refine l_sld C (hi 1 (by decide)) dL_law_742 ?_
  refine l_callM (valc := vi) (r := r) [.int (yx Y (x3 + (1 : Int32)).toNatClampNeg)] [.int r] C lf_86 lv_X7_back (fun E => c_X7_back E 0 (yx Y (x3 + (1 : Int32)).toNatClampNeg) rfl k em) (by decide) (by decide) rfl rfl (Nat.le_of_ble_eq_true rfl) dL_law_743 ?_
  refine l_ieq C 1231 dL_law_746 (by decide) ?_
  exact q h1 k1 hI1
set_option maxHeartbeats 4000000 in
set_option maxRecDepth 100000 in
theorem law_17 {Y : Yx} (C : OL Y) (Inv : Hp → Hp → Prop) (st_louds : ∀ a : Int32, SP Inv (fun h => F_X6_louds 0 a h) (fun k => F_X7_louds 0 a k)) {x3 : Int32} (hi : ∀ j : Nat, j < 6 → vp_in (x3 + nI j) (yn Y)) {h k : Hp} (hI : Inv h k) (q : ∀ h' k', Inv h' k' → GL Y 1231 [some (.ref (yb Y)), some (.ref (yB Y + 0)), some (.ref (yB Y + 75 + 0)), some (.int x3)] [] h' k') : GL Y 751 [some (.ref (yb Y)), some (.ref (yB Y + 0)), some (.ref (yB Y + 75 + 0)), some (.int x3)] [] h k := by
  obtain ⟨r, h1, k1, ex, em, hI1⟩ := st_louds (yx Y (x3 + (1 : Int32)).toNatClampNeg) h k hI
  refine l_aload_n (i := 1) C dL_law_751 rfl rfl ?_
  refine l_aload_n (i := 0) C dL_law_752 rfl rfl ?_
  refine l_iload_n (i := 3) C dL_law_753 rfl rfl ?_
  refine l_iconst (v := 1) C dL_law_754 (by decide) ?_
  refine l_iadd C dL_law_755 ?_
  refine l_sld C (hi 1 (by decide)) dL_law_756 ?_
  refine l_callX (valc := vi) (r := r) [.int (yx Y (x3 + (1 : Int32)).toNatClampNeg)] [] C lf_87 lv_X6_louds (fun E => c_X6_louds E 0 (yx Y (x3 + (1 : Int32)).toNatClampNeg) rfl h ex) (by decide) (by decide) rfl rfl (Nat.le_of_ble_eq_true rfl) dL_law_757 ?_
  refine l_aload_n (i := 2) C dL_law_760 rfl rfl ?_
  refine l_aload_n (i := 0) C dL_law_761 rfl rfl ?_
  refine l_iload_n (i := 3) C dL_law_762 rfl rfl ?_
  refine l_iconst (v := 1) C dL_law_763 (by decide) ?_
  refine l_iadd C dL_law_764 ?_
  refine l_sld C (hi 1 (by decide)) dL_law_765 ?_
  refine l_callM (valc := vi) (r := r) [.int (yx Y (x3 + (1 : Int32)).toNatClampNeg)] [.int r] C lf_90 lv_X7_louds (fun E => c_X7_louds E 0 (yx Y (x3 + (1 : Int32)).toNatClampNeg) rfl k em) (by decide) (by decide) rfl rfl (Nat.le_of_ble_eq_true rfl) dL_law_766 ?_
  refine l_ieq C 1231 dL_law_769 (by decide) ?_
  exact q h1 k1 hI1
set_option maxHeartbeats 4000000 in
set_option maxRecDepth 100000 in
theorem law_18 {Y : Yx} (C : OL Y) (Inv : Hp → Hp → Prop) (st_words : ∀ a : Int32, SP Inv (fun h => F_X6_words 0 a h) (fun k => F_X7_words 0 a k)) {x3 : Int32} (hi : ∀ j : Nat, j < 6 → vp_in (x3 + nI j) (yn Y)) {h k : Hp} (hI : Inv h k) (q : ∀ h' k', Inv h' k' → GL Y 1231 [some (.ref (yb Y)), some (.ref (yB Y + 0)), some (.ref (yB Y + 75 + 0)), some (.int x3)] [] h' k') : GL Y 774 [some (.ref (yb Y)), some (.ref (yB Y + 0)), some (.ref (yB Y + 75 + 0)), some (.int x3)] [] h k := by
  obtain ⟨r, h1, k1, ex, em, hI1⟩ := st_words (yx Y (x3 + (1 : Int32)).toNatClampNeg) h k hI
  refine l_aload_n (i := 1) C dL_law_774 rfl rfl ?_
  refine l_aload_n (i := 0) C dL_law_775 rfl rfl ?_
  refine l_iload_n (i := 3) C dL_law_776 rfl rfl ?_
  refine l_iconst (v := 1) C dL_law_777 (by decide) ?_
  refine l_iadd C dL_law_778 ?_
  refine l_sld C (hi 1 (by decide)) dL_law_779 ?_
  refine l_callX (valc := vi) (r := r) [.int (yx Y (x3 + (1 : Int32)).toNatClampNeg)] [] C lf_91 lv_X6_words (fun E => c_X6_words E 0 (yx Y (x3 + (1 : Int32)).toNatClampNeg) rfl h ex) (by decide) (by decide) rfl rfl (Nat.le_of_ble_eq_true rfl) dL_law_780 ?_
  refine l_aload_n (i := 2) C dL_law_783 rfl rfl ?_
  refine l_aload_n (i := 0) C dL_law_784 rfl rfl ?_
  refine l_iload_n (i := 3) C dL_law_785 rfl rfl ?_
  refine l_iconst (v := 1) C dL_law_786 (by decide) ?_
  refine l_iadd C dL_law_787 ?_
  refine l_sld C (hi 1 (by decide)) dL_law_788 ?_
  refine l_callM (valc := vi) (r := r) [.int (yx Y (x3 + (1 : Int32)).toNatClampNeg)] [.int r] C lf_94 lv_X7_words (fun E => c_X7_words E 0 (yx Y (x3 + (1 : Int32)).toNatClampNeg) rfl k em) (by decide) (by decide) rfl rfl (Nat.le_of_ble_eq_true rfl) dL_law_789 ?_
  refine l_ieq C 1231 dL_law_792 (by decide) ?_
  exact q h1 k1 hI1
set_option maxHeartbeats 4000000 in
set_option maxRecDepth 100000 in
theorem law_19 {Y : Yx} (C : OL Y) (Inv : Hp → Hp → Prop) (st_kinds : ∀ a : Int32, SP Inv (fun h => F_X6_kinds 0 a h) (fun k => F_X7_kinds 0 a k)) {x3 : Int32} (hi : ∀ j : Nat, j < 6 → vp_in (x3 + nI j) (yn Y)) {h k : Hp} (hI : Inv h k) (q : ∀ h' k', Inv h' k' → GL Y 1231 [some (.ref (yb Y)), some (.ref (yB Y + 0)), some (.ref (yB Y + 75 + 0)), some (.int x3)] [] h' k') : GL Y 797 [some (.ref (yb Y)), some (.ref (yB Y + 0)), some (.ref (yB Y + 75 + 0)), some (.int x3)] [] h k := by
  obtain ⟨r, h1, k1, ex, em, hI1⟩ := st_kinds (yx Y (x3 + (1 : Int32)).toNatClampNeg) h k hI
  refine l_aload_n (i := 1) C dL_law_797 rfl rfl ?_
  refine l_aload_n (i := 0) C dL_law_798 rfl rfl ?_
  refine l_iload_n (i := 3) C dL_law_799 rfl rfl ?_
  refine l_iconst (v := 1) C dL_law_800 (by decide) ?_
  refine l_iadd C dL_law_801 ?_
  refine l_sld C (hi 1 (by decide)) dL_law_802 ?_
  refine l_callX (valc := vi) (r := r) [.int (yx Y (x3 + (1 : Int32)).toNatClampNeg)] [] C lf_95 lv_X6_kinds (fun E => c_X6_kinds E 0 (yx Y (x3 + (1 : Int32)).toNatClampNeg) rfl h ex) (by decide) (by decide) rfl rfl (Nat.le_of_ble_eq_true rfl) dL_law_803 ?_
  refine l_aload_n (i := 2) C dL_law_806 rfl rfl ?_
  refine l_aload_n (i := 0) C dL_law_807 rfl rfl ?_
  refine l_iload_n (i := 3) C dL_law_808 rfl rfl ?_
  refine l_iconst (v := 1) C dL_law_809 (by decide) ?_
  refine l_iadd C dL_law_810 ?_
  refine l_sld C (hi 1 (by decide)) dL_law_811 ?_
  refine l_callM (valc := vi) (r := r) [.int (yx Y (x3 + (1 : Int32)).toNatClampNeg)] [.int r] C lf_98 lv_X7_kinds (fun E => c_X7_kinds E 0 (yx Y (x3 + (1 : Int32)).toNatClampNeg) rfl k em) (by decide) (by decide) rfl rfl (Nat.le_of_ble_eq_true rfl) dL_law_812 ?_
  refine l_ieq C 1231 dL_law_815 (by decide) ?_
  exact q h1 k1 hI1
set_option maxHeartbeats 4000000 in
set_option maxRecDepth 100000 in
theorem law_20 {Y : Yx} (C : OL Y) (Inv : Hp → Hp → Prop) (st_lay : ∀ a : Int32, SP Inv (fun h => F_X6_lay 0 a h) (fun k => F_X7_lay 0 a k)) {x3 : Int32} (hi : ∀ j : Nat, j < 6 → vp_in (x3 + nI j) (yn Y)) {h k : Hp} (hI : Inv h k) (q : ∀ h' k', Inv h' k' → GL Y 1231 [some (.ref (yb Y)), some (.ref (yB Y + 0)), some (.ref (yB Y + 75 + 0)), some (.int x3)] [] h' k') : GL Y 820 [some (.ref (yb Y)), some (.ref (yB Y + 0)), some (.ref (yB Y + 75 + 0)), some (.int x3)] [] h k := by
  obtain ⟨r, h1, k1, ex, em, hI1⟩ := st_lay (yx Y (x3 + (1 : Int32)).toNatClampNeg) h k hI
  refine l_aload_n (i := 1) C dL_law_820 rfl rfl ?_
  refine l_aload_n (i := 0) C dL_law_821 rfl rfl ?_
  refine l_iload_n (i := 3) C dL_law_822 rfl rfl ?_
  refine l_iconst (v := 1) C dL_law_823 (by decide) ?_
  refine l_iadd C dL_law_824 ?_
  refine l_sld C (hi 1 (by decide)) dL_law_825 ?_
  refine l_callX (valc := vi) (r := r) [.int (yx Y (x3 + (1 : Int32)).toNatClampNeg)] [] C lf_99 lv_X6_lay (fun E => c_X6_lay E 0 (yx Y (x3 + (1 : Int32)).toNatClampNeg) rfl h ex) (by decide) (by decide) rfl rfl (Nat.le_of_ble_eq_true rfl) dL_law_826 ?_
  refine l_aload_n (i := 2) C dL_law_829 rfl rfl ?_
  refine l_aload_n (i := 0) C dL_law_830 rfl rfl ?_
  refine l_iload_n (i := 3) C dL_law_831 rfl rfl ?_
  refine l_iconst (v := 1) C dL_law_832 (by decide) ?_
  refine l_iadd C dL_law_833 ?_
  refine l_sld C (hi 1 (by decide)) dL_law_834 ?_
  refine l_callM (valc := vi) (r := r) [.int (yx Y (x3 + (1 : Int32)).toNatClampNeg)] [.int r] C lf_102 lv_X7_lay (fun E => c_X7_lay E 0 (yx Y (x3 + (1 : Int32)).toNatClampNeg) rfl k em) (by decide) (by decide) rfl rfl (Nat.le_of_ble_eq_true rfl) dL_law_835 ?_
  refine l_ieq C 1231 dL_law_838 (by decide) ?_
  exact q h1 k1 hI1
set_option maxHeartbeats 4000000 in
set_option maxRecDepth 100000 in
theorem law_21 {Y : Yx} (C : OL Y) (Inv : Hp → Hp → Prop) (st_odds : ∀ a b c : Int32, SP Inv (fun h => F_X6_odds 0 a b c h) (fun k => F_X7_odds 0 a b c k)) {x3 : Int32} (hi : ∀ j : Nat, j < 6 → vp_in (x3 + nI j) (yn Y)) {h k : Hp} (hI : Inv h k) (q : ∀ h' k', Inv h' k' → GL Y 1231 [some (.ref (yb Y)), some (.ref (yB Y + 0)), some (.ref (yB Y + 75 + 0)), some (.int x3)] [] h' k') : GL Y 843 [some (.ref (yb Y)), some (.ref (yB Y + 0)), some (.ref (yB Y + 75 + 0)), some (.int x3)] [] h k := by
  obtain ⟨r, h1, k1, ex, em, hI1⟩ := st_odds (yx Y (x3 + (1 : Int32)).toNatClampNeg) (yx Y (x3 + (2 : Int32)).toNatClampNeg) (yx Y (x3 + (3 : Int32)).toNatClampNeg) h k hI
  refine l_aload_n (i := 1) C dL_law_843 rfl rfl ?_
  refine l_aload_n (i := 0) C dL_law_844 rfl rfl ?_
  refine l_iload_n (i := 3) C dL_law_845 rfl rfl ?_
  refine l_iconst (v := 1) C dL_law_846 (by decide) ?_
  refine l_iadd C dL_law_847 ?_
  refine l_sld C (hi 1 (by decide)) dL_law_848 ?_
  refine l_aload_n (i := 0) C dL_law_849 rfl rfl ?_
  refine l_iload_n (i := 3) C dL_law_850 rfl rfl ?_
  refine l_iconst (v := 2) C dL_law_851 (by decide) ?_
  refine l_iadd C dL_law_852 ?_
  refine l_sld C (hi 2 (by decide)) dL_law_853 ?_
  refine l_aload_n (i := 0) C dL_law_854 rfl rfl ?_
  refine l_iload_n (i := 3) C dL_law_855 rfl rfl ?_
  refine l_iconst (v := 3) C dL_law_856 (by decide) ?_
  refine l_iadd C dL_law_857 ?_
  refine l_sld C (hi 3 (by decide)) dL_law_858 ?_
  refine l_callX (valc := vl) (r := r) [.int (yx Y (x3 + (1 : Int32)).toNatClampNeg), .int (yx Y (x3 + (2 : Int32)).toNatClampNeg), .int (yx Y (x3 + (3 : Int32)).toNatClampNeg)] [] C lf_103 lv_X6_odds (fun E => c_X6_odds E 0 (yx Y (x3 + (1 : Int32)).toNatClampNeg) (yx Y (x3 + (2 : Int32)).toNatClampNeg) (yx Y (x3 + (3 : Int32)).toNatClampNeg) rfl h ex) (by decide) (by decide) rfl rfl (Nat.le_of_ble_eq_true rfl) dL_law_859 ?_
  refine l_aload_n (i := 2) C dL_law_862 rfl rfl ?_
  refine l_aload_n (i := 0) C dL_law_863 rfl rfl ?_
  refine l_iload_n (i := 3) C dL_law_864 rfl rfl ?_
  refine l_iconst (v := 1) C dL_law_865 (by decide) ?_
  refine l_iadd C dL_law_866 ?_
  refine l_sld C (hi 1 (by decide)) dL_law_867 ?_
  refine l_aload_n (i := 0) C dL_law_868 rfl rfl ?_
  refine l_iload_n (i := 3) C dL_law_869 rfl rfl ?_
  refine l_iconst (v := 2) C dL_law_870 (by decide) ?_
  refine l_iadd C dL_law_871 ?_
  refine l_sld C (hi 2 (by decide)) dL_law_872 ?_
  refine l_aload_n (i := 0) C dL_law_873 rfl rfl ?_
  refine l_iload_n (i := 3) C dL_law_874 rfl rfl ?_
  refine l_iconst (v := 3) C dL_law_875 (by decide) ?_
  refine l_iadd C dL_law_876 ?_
  refine l_sld C (hi 3 (by decide)) dL_law_877 ?_
  refine l_callM (valc := vl) (r := r) [.int (yx Y (x3 + (1 : Int32)).toNatClampNeg), .int (yx Y (x3 + (2 : Int32)).toNatClampNeg), .int (yx Y (x3 + (3 : Int32)).toNatClampNeg)] [.long r] C lf_107 lv_X7_odds (fun E => c_X7_odds E 0 (yx Y (x3 + (1 : Int32)).toNatClampNeg) (yx Y (x3 + (2 : Int32)).toNatClampNeg) (yx Y (x3 + (3 : Int32)).toNatClampNeg) rfl k em) (by decide) (by decide) rfl rfl (Nat.le_of_ble_eq_true rfl) dL_law_878 ?_
  refine l_lcmp C dL_law_881 ?_
  refine l_if0 C 1231 dL_law_882 (by decide) ?_
  exact q h1 k1 hI1
set_option maxHeartbeats 4000000 in
set_option maxRecDepth 100000 in
theorem law_22 {Y : Yx} (C : OL Y) (Inv : Hp → Hp → Prop) (st_sheet : ∀ a b c : Int32, SP Inv (fun h => F_X6_sheet 0 a b c h) (fun k => F_X7_sheet 0 a b c k)) {x3 : Int32} (hi : ∀ j : Nat, j < 6 → vp_in (x3 + nI j) (yn Y)) {h k : Hp} (hI : Inv h k) (q : ∀ h' k', Inv h' k' → GL Y 1231 [some (.ref (yb Y)), some (.ref (yB Y + 0)), some (.ref (yB Y + 75 + 0)), some (.int x3)] [] h' k') : GL Y 887 [some (.ref (yb Y)), some (.ref (yB Y + 0)), some (.ref (yB Y + 75 + 0)), some (.int x3)] [] h k := by
  obtain ⟨r, h1, k1, ex, em, hI1⟩ := st_sheet (yx Y (x3 + (1 : Int32)).toNatClampNeg) (yx Y (x3 + (2 : Int32)).toNatClampNeg) (yx Y (x3 + (3 : Int32)).toNatClampNeg) h k hI
  refine l_aload_n (i := 1) C dL_law_887 rfl rfl ?_
  refine l_aload_n (i := 0) C dL_law_888 rfl rfl ?_
  refine l_iload_n (i := 3) C dL_law_889 rfl rfl ?_
  refine l_iconst (v := 1) C dL_law_890 (by decide) ?_
  refine l_iadd C dL_law_891 ?_
  refine l_sld C (hi 1 (by decide)) dL_law_892 ?_
  refine l_aload_n (i := 0) C dL_law_893 rfl rfl ?_
  refine l_iload_n (i := 3) C dL_law_894 rfl rfl ?_
  refine l_iconst (v := 2) C dL_law_895 (by decide) ?_
  refine l_iadd C dL_law_896 ?_
  refine l_sld C (hi 2 (by decide)) dL_law_897 ?_
  refine l_aload_n (i := 0) C dL_law_898 rfl rfl ?_
  refine l_iload_n (i := 3) C dL_law_899 rfl rfl ?_
  refine l_iconst (v := 3) C dL_law_900 (by decide) ?_
  refine l_iadd C dL_law_901 ?_
  refine l_sld C (hi 3 (by decide)) dL_law_902 ?_
  refine l_callX (valc := vi) (r := r) [.int (yx Y (x3 + (1 : Int32)).toNatClampNeg), .int (yx Y (x3 + (2 : Int32)).toNatClampNeg), .int (yx Y (x3 + (3 : Int32)).toNatClampNeg)] [] C lf_108 lv_X6_sheet (fun E => c_X6_sheet E 0 (yx Y (x3 + (1 : Int32)).toNatClampNeg) (yx Y (x3 + (2 : Int32)).toNatClampNeg) (yx Y (x3 + (3 : Int32)).toNatClampNeg) rfl h ex) (by decide) (by decide) rfl rfl (Nat.le_of_ble_eq_true rfl) dL_law_903 ?_
  refine l_aload_n (i := 2) C dL_law_906 rfl rfl ?_
  refine l_aload_n (i := 0) C dL_law_907 rfl rfl ?_
  refine l_iload_n (i := 3) C dL_law_908 rfl rfl ?_
  refine l_iconst (v := 1) C dL_law_909 (by decide) ?_
  refine l_iadd C dL_law_910 ?_
  refine l_sld C (hi 1 (by decide)) dL_law_911 ?_
  refine l_aload_n (i := 0) C dL_law_912 rfl rfl ?_
  refine l_iload_n (i := 3) C dL_law_913 rfl rfl ?_
  refine l_iconst (v := 2) C dL_law_914 (by decide) ?_
  refine l_iadd C dL_law_915 ?_
  refine l_sld C (hi 2 (by decide)) dL_law_916 ?_
  refine l_aload_n (i := 0) C dL_law_917 rfl rfl ?_
  refine l_iload_n (i := 3) C dL_law_918 rfl rfl ?_
  refine l_iconst (v := 3) C dL_law_919 (by decide) ?_
  refine l_iadd C dL_law_920 ?_
  refine l_sld C (hi 3 (by decide)) dL_law_921 ?_
  refine l_callM (valc := vi) (r := r) [.int (yx Y (x3 + (1 : Int32)).toNatClampNeg), .int (yx Y (x3 + (2 : Int32)).toNatClampNeg), .int (yx Y (x3 + (3 : Int32)).toNatClampNeg)] [.int r] C lf_111 lv_X7_sheet (fun E => c_X7_sheet E 0 (yx Y (x3 + (1 : Int32)).toNatClampNeg) (yx Y (x3 + (2 : Int32)).toNatClampNeg) (yx Y (x3 + (3 : Int32)).toNatClampNeg) rfl k em) (by decide) (by decide) rfl rfl (Nat.le_of_ble_eq_true rfl) dL_law_922 ?_
  refine l_ieq C 1231 dL_law_925 (by decide) ?_
  exact q h1 k1 hI1
set_option maxHeartbeats 4000000 in
set_option maxRecDepth 100000 in
theorem law_23 {Y : Yx} (C : OL Y) (Inv : Hp → Hp → Prop) (st_lose : ∀ a : Int32, SP Inv (fun h => F_X6_lose 0 a h) (fun k => F_X7_lose 0 a k)) {x3 : Int32} (hi : ∀ j : Nat, j < 6 → vp_in (x3 + nI j) (yn Y)) {h k : Hp} (hI : Inv h k) (q : ∀ h' k', Inv h' k' → GL Y 1231 [some (.ref (yb Y)), some (.ref (yB Y + 0)), some (.ref (yB Y + 75 + 0)), some (.int x3)] [] h' k') : GL Y 930 [some (.ref (yb Y)), some (.ref (yB Y + 0)), some (.ref (yB Y + 75 + 0)), some (.int x3)] [] h k := by
  obtain ⟨r, h1, k1, ex, em, hI1⟩ := st_lose (yx Y (x3 + (1 : Int32)).toNatClampNeg) h k hI
  refine l_aload_n (i := 1) C dL_law_930 rfl rfl ?_
  refine l_aload_n (i := 0) C dL_law_931 rfl rfl ?_
  refine l_iload_n (i := 3) C dL_law_932 rfl rfl ?_
  refine l_iconst (v := 1) C dL_law_933 (by decide) ?_
  refine l_iadd C dL_law_934 ?_
  refine l_sld C (hi 1 (by decide)) dL_law_935 ?_
  refine l_callX (valc := vi) (r := r) [.int (yx Y (x3 + (1 : Int32)).toNatClampNeg)] [] C lf_112 lv_X6_lose (fun E => c_X6_lose E 0 (yx Y (x3 + (1 : Int32)).toNatClampNeg) rfl h ex) (by decide) (by decide) rfl rfl (Nat.le_of_ble_eq_true rfl) dL_law_936 ?_
  refine l_aload_n (i := 2) C dL_law_939 rfl rfl ?_
  refine l_aload_n (i := 0) C dL_law_940 rfl rfl ?_
  refine l_iload_n (i := 3) C dL_law_941 rfl rfl ?_
  refine l_iconst (v := 1) C dL_law_942 (by decide) ?_
  refine l_iadd C dL_law_943 ?_
  refine l_sld C (hi 1 (by decide)) dL_law_944 ?_
  refine l_callM (valc := vi) (r := r) [.int (yx Y (x3 + (1 : Int32)).toNatClampNeg)] [.int r] C lf_115 lv_X7_lose (fun E => c_X7_lose E 0 (yx Y (x3 + (1 : Int32)).toNatClampNeg) rfl k em) (by decide) (by decide) rfl rfl (Nat.le_of_ble_eq_true rfl) dL_law_945 ?_
  refine l_ieq C 1231 dL_law_948 (by decide) ?_
  exact q h1 k1 hI1
set_option maxHeartbeats 4000000 in
set_option maxRecDepth 100000 in
theorem law_24 {Y : Yx} (C : OL Y) (Inv : Hp → Hp → Prop) (st_put : ∀ a b c : Int32, SP Inv (fun h => F_X6_put 0 a b c h) (fun k => F_X7_put 0 a b c k)) {x3 : Int32} (hi : ∀ j : Nat, j < 6 → vp_in (x3 + nI j) (yn Y)) {h k : Hp} (hI : Inv h k) (q : ∀ h' k', Inv h' k' → GL Y 1231 [some (.ref (yb Y)), some (.ref (yB Y + 0)), some (.ref (yB Y + 75 + 0)), some (.int x3)] [] h' k') : GL Y 953 [some (.ref (yb Y)), some (.ref (yB Y + 0)), some (.ref (yB Y + 75 + 0)), some (.int x3)] [] h k := by
  obtain ⟨r, h1, k1, ex, em, hI1⟩ := st_put (yx Y (x3 + (1 : Int32)).toNatClampNeg) (yx Y (x3 + (2 : Int32)).toNatClampNeg) (yx Y (x3 + (3 : Int32)).toNatClampNeg) h k hI
  refine l_aload_n (i := 1) C dL_law_953 rfl rfl ?_
  refine l_aload_n (i := 0) C dL_law_954 rfl rfl ?_
  refine l_iload_n (i := 3) C dL_law_955 rfl rfl ?_
  refine l_iconst (v := 1) C dL_law_956 (by decide) ?_
  refine l_iadd C dL_law_957 ?_
  refine l_sld C (hi 1 (by decide)) dL_law_958 ?_
  refine l_aload_n (i := 0) C dL_law_959 rfl rfl ?_
  refine l_iload_n (i := 3) C dL_law_960 rfl rfl ?_
  refine l_iconst (v := 2) C dL_law_961 (by decide) ?_
  refine l_iadd C dL_law_962 ?_
  refine l_sld C (hi 2 (by decide)) dL_law_963 ?_
  refine l_aload_n (i := 0) C dL_law_964 rfl rfl ?_
  refine l_iload_n (i := 3) C dL_law_965 rfl rfl ?_
  refine l_iconst (v := 3) C dL_law_966 (by decide) ?_
  refine l_iadd C dL_law_967 ?_
  refine l_sld C (hi 3 (by decide)) dL_law_968 ?_
  refine l_callX (valc := vi) (r := r) [.int (yx Y (x3 + (1 : Int32)).toNatClampNeg), .int (yx Y (x3 + (2 : Int32)).toNatClampNeg), .int (yx Y (x3 + (3 : Int32)).toNatClampNeg)] [] C lf_116 lv_X6_put (fun E => c_X6_put E 0 (yx Y (x3 + (1 : Int32)).toNatClampNeg) (yx Y (x3 + (2 : Int32)).toNatClampNeg) (yx Y (x3 + (3 : Int32)).toNatClampNeg) rfl h ex) (by decide) (by decide) rfl rfl (Nat.le_of_ble_eq_true rfl) dL_law_969 ?_
  refine l_aload_n (i := 2) C dL_law_972 rfl rfl ?_
  refine l_aload_n (i := 0) C dL_law_973 rfl rfl ?_
  refine l_iload_n (i := 3) C dL_law_974 rfl rfl ?_
  refine l_iconst (v := 1) C dL_law_975 (by decide) ?_
  refine l_iadd C dL_law_976 ?_
  refine l_sld C (hi 1 (by decide)) dL_law_977 ?_
  refine l_aload_n (i := 0) C dL_law_978 rfl rfl ?_
  refine l_iload_n (i := 3) C dL_law_979 rfl rfl ?_
  refine l_iconst (v := 2) C dL_law_980 (by decide) ?_
  refine l_iadd C dL_law_981 ?_
  refine l_sld C (hi 2 (by decide)) dL_law_982 ?_
  refine l_aload_n (i := 0) C dL_law_983 rfl rfl ?_
  refine l_iload_n (i := 3) C dL_law_984 rfl rfl ?_
  refine l_iconst (v := 3) C dL_law_985 (by decide) ?_
  refine l_iadd C dL_law_986 ?_
  refine l_sld C (hi 3 (by decide)) dL_law_987 ?_
  refine l_callM (valc := vi) (r := r) [.int (yx Y (x3 + (1 : Int32)).toNatClampNeg), .int (yx Y (x3 + (2 : Int32)).toNatClampNeg), .int (yx Y (x3 + (3 : Int32)).toNatClampNeg)] [.int r] C lf_119 lv_X7_put (fun E => c_X7_put E 0 (yx Y (x3 + (1 : Int32)).toNatClampNeg) (yx Y (x3 + (2 : Int32)).toNatClampNeg) (yx Y (x3 + (3 : Int32)).toNatClampNeg) rfl k em) (by decide) (by decide) rfl rfl (Nat.le_of_ble_eq_true rfl) dL_law_988 ?_
  refine l_ieq C 1231 dL_law_991 (by decide) ?_
  exact q h1 k1 hI1
set_option maxHeartbeats 4000000 in
set_option maxRecDepth 100000 in
theorem law_25 {Y : Yx} (C : OL Y) (Inv : Hp → Hp → Prop) (st_cell : ∀ a b c : Int32, SP Inv (fun h => F_X6_cell 0 a b c h) (fun k => F_X7_cell 0 a b c k)) {x3 : Int32} (hi : ∀ j : Nat, j < 6 → vp_in (x3 + nI j) (yn Y)) {h k : Hp} (hI : Inv h k) (q : ∀ h' k', Inv h' k' → GL Y 1231 [some (.ref (yb Y)), some (.ref (yB Y + 0)), some (.ref (yB Y + 75 + 0)), some (.int x3)] [] h' k') : GL Y 996 [some (.ref (yb Y)), some (.ref (yB Y + 0)), some (.ref (yB Y + 75 + 0)), some (.int x3)] [] h k := by
  obtain ⟨r, h1, k1, ex, em, hI1⟩ := st_cell (yx Y (x3 + (1 : Int32)).toNatClampNeg) (yx Y (x3 + (2 : Int32)).toNatClampNeg) (yx Y (x3 + (3 : Int32)).toNatClampNeg) h k hI
  refine l_aload_n (i := 1) C dL_law_996 rfl rfl ?_
  refine l_aload_n (i := 0) C dL_law_997 rfl rfl ?_
  refine l_iload_n (i := 3) C dL_law_998 rfl rfl ?_
  refine l_iconst (v := 1) C dL_law_999 (by decide) ?_
  refine l_iadd C dL_law_1000 ?_
  refine l_sld C (hi 1 (by decide)) dL_law_1001 ?_
  refine l_aload_n (i := 0) C dL_law_1002 rfl rfl ?_
  refine l_iload_n (i := 3) C dL_law_1003 rfl rfl ?_
  refine l_iconst (v := 2) C dL_law_1004 (by decide) ?_
  refine l_iadd C dL_law_1005 ?_
  refine l_sld C (hi 2 (by decide)) dL_law_1006 ?_
  refine l_aload_n (i := 0) C dL_law_1007 rfl rfl ?_
  refine l_iload_n (i := 3) C dL_law_1008 rfl rfl ?_
  refine l_iconst (v := 3) C dL_law_1009 (by decide) ?_
  refine l_iadd C dL_law_1010 ?_
  refine l_sld C (hi 3 (by decide)) dL_law_1011 ?_
  refine l_callX (valc := vl) (r := r) [.int (yx Y (x3 + (1 : Int32)).toNatClampNeg), .int (yx Y (x3 + (2 : Int32)).toNatClampNeg), .int (yx Y (x3 + (3 : Int32)).toNatClampNeg)] [] C lf_120 lv_X6_cell (fun E => c_X6_cell E 0 (yx Y (x3 + (1 : Int32)).toNatClampNeg) (yx Y (x3 + (2 : Int32)).toNatClampNeg) (yx Y (x3 + (3 : Int32)).toNatClampNeg) rfl h ex) (by decide) (by decide) rfl rfl (Nat.le_of_ble_eq_true rfl) dL_law_1012 ?_
  refine l_aload_n (i := 2) C dL_law_1015 rfl rfl ?_
  refine l_aload_n (i := 0) C dL_law_1016 rfl rfl ?_
  refine l_iload_n (i := 3) C dL_law_1017 rfl rfl ?_
  refine l_iconst (v := 1) C dL_law_1018 (by decide) ?_
  refine l_iadd C dL_law_1019 ?_
  refine l_sld C (hi 1 (by decide)) dL_law_1020 ?_
  refine l_aload_n (i := 0) C dL_law_1021 rfl rfl ?_
  refine l_iload_n (i := 3) C dL_law_1022 rfl rfl ?_
  refine l_iconst (v := 2) C dL_law_1023 (by decide) ?_
  refine l_iadd C dL_law_1024 ?_
  refine l_sld C (hi 2 (by decide)) dL_law_1025 ?_
  refine l_aload_n (i := 0) C dL_law_1026 rfl rfl ?_
  refine l_iload_n (i := 3) C dL_law_1027 rfl rfl ?_
  refine l_iconst (v := 3) C dL_law_1028 (by decide) ?_
  refine l_iadd C dL_law_1029 ?_
  refine l_sld C (hi 3 (by decide)) dL_law_1030 ?_
  refine l_callM (valc := vl) (r := r) [.int (yx Y (x3 + (1 : Int32)).toNatClampNeg), .int (yx Y (x3 + (2 : Int32)).toNatClampNeg), .int (yx Y (x3 + (3 : Int32)).toNatClampNeg)] [.long r] C lf_123 lv_X7_cell (fun E => c_X7_cell E 0 (yx Y (x3 + (1 : Int32)).toNatClampNeg) (yx Y (x3 + (2 : Int32)).toNatClampNeg) (yx Y (x3 + (3 : Int32)).toNatClampNeg) rfl k em) (by decide) (by decide) rfl rfl (Nat.le_of_ble_eq_true rfl) dL_law_1031 ?_
  refine l_lcmp C dL_law_1034 ?_
  refine l_if0 C 1231 dL_law_1035 (by decide) ?_
  exact q h1 k1 hI1
set_option maxHeartbeats 4000000 in
set_option maxRecDepth 100000 in
theorem law_26 {Y : Yx} (C : OL Y) (Inv : Hp → Hp → Prop) (st_copy : ∀ a b c d e : Int32, SP Inv (fun h => F_X6_copy 0 a b c d e h) (fun k => F_X7_copy 0 a b c d e k)) {x3 : Int32} (hi : ∀ j : Nat, j < 6 → vp_in (x3 + nI j) (yn Y)) {h k : Hp} (hI : Inv h k) (q : ∀ h' k', Inv h' k' → GL Y 1231 [some (.ref (yb Y)), some (.ref (yB Y + 0)), some (.ref (yB Y + 75 + 0)), some (.int x3)] [] h' k') : GL Y 1040 [some (.ref (yb Y)), some (.ref (yB Y + 0)), some (.ref (yB Y + 75 + 0)), some (.int x3)] [] h k := by
  obtain ⟨r, h1, k1, ex, em, hI1⟩ := st_copy (yx Y (x3 + (1 : Int32)).toNatClampNeg) (yx Y (x3 + (2 : Int32)).toNatClampNeg) (yx Y (x3 + (3 : Int32)).toNatClampNeg) (yx Y (x3 + (4 : Int32)).toNatClampNeg) (yx Y (x3 + (5 : Int32)).toNatClampNeg) h k hI
  refine l_aload_n (i := 1) C dL_law_1040 rfl rfl ?_
  refine l_aload_n (i := 0) C dL_law_1041 rfl rfl ?_
  refine l_iload_n (i := 3) C dL_law_1042 rfl rfl ?_
  refine l_iconst (v := 1) C dL_law_1043 (by decide) ?_
  refine l_iadd C dL_law_1044 ?_
  refine l_sld C (hi 1 (by decide)) dL_law_1045 ?_
  refine l_aload_n (i := 0) C dL_law_1046 rfl rfl ?_
  refine l_iload_n (i := 3) C dL_law_1047 rfl rfl ?_
  refine l_iconst (v := 2) C dL_law_1048 (by decide) ?_
  refine l_iadd C dL_law_1049 ?_
  refine l_sld C (hi 2 (by decide)) dL_law_1050 ?_
  refine l_aload_n (i := 0) C dL_law_1051 rfl rfl ?_
  refine l_iload_n (i := 3) C dL_law_1052 rfl rfl ?_
  refine l_iconst (v := 3) C dL_law_1053 (by decide) ?_
  refine l_iadd C dL_law_1054 ?_
  refine l_sld C (hi 3 (by decide)) dL_law_1055 ?_
  refine l_aload_n (i := 0) C dL_law_1056 rfl rfl ?_
  refine l_iload_n (i := 3) C dL_law_1057 rfl rfl ?_
  refine l_iconst (v := 4) C dL_law_1058 (by decide) ?_
  refine l_iadd C dL_law_1059 ?_
  refine l_sld C (hi 4 (by decide)) dL_law_1060 ?_
  refine l_aload_n (i := 0) C dL_law_1061 rfl rfl ?_
  refine l_iload_n (i := 3) C dL_law_1062 rfl rfl ?_
  refine l_iconst (v := 5) C dL_law_1063 (by decide) ?_
  refine l_iadd C dL_law_1064 ?_
  refine l_sld C (hi 5 (by decide)) dL_law_1065 ?_
  refine l_callX (valc := vi) (r := r) [.int (yx Y (x3 + (1 : Int32)).toNatClampNeg), .int (yx Y (x3 + (2 : Int32)).toNatClampNeg), .int (yx Y (x3 + (3 : Int32)).toNatClampNeg), .int (yx Y (x3 + (4 : Int32)).toNatClampNeg), .int (yx Y (x3 + (5 : Int32)).toNatClampNeg)] [] C lf_124 lv_X6_copy (fun E => c_X6_copy E 0 (yx Y (x3 + (1 : Int32)).toNatClampNeg) (yx Y (x3 + (2 : Int32)).toNatClampNeg) (yx Y (x3 + (3 : Int32)).toNatClampNeg) (yx Y (x3 + (4 : Int32)).toNatClampNeg) (yx Y (x3 + (5 : Int32)).toNatClampNeg) rfl h ex) (by decide) (by decide) rfl rfl (Nat.le_of_ble_eq_true rfl) dL_law_1066 ?_
  refine l_aload_n (i := 2) C dL_law_1069 rfl rfl ?_
  refine l_aload_n (i := 0) C dL_law_1070 rfl rfl ?_
  refine l_iload_n (i := 3) C dL_law_1071 rfl rfl ?_
  refine l_iconst (v := 1) C dL_law_1072 (by decide) ?_
  refine l_iadd C dL_law_1073 ?_
  refine l_sld C (hi 1 (by decide)) dL_law_1074 ?_
  refine l_aload_n (i := 0) C dL_law_1075 rfl rfl ?_
  refine l_iload_n (i := 3) C dL_law_1076 rfl rfl ?_
  refine l_iconst (v := 2) C dL_law_1077 (by decide) ?_
  refine l_iadd C dL_law_1078 ?_
  refine l_sld C (hi 2 (by decide)) dL_law_1079 ?_
  refine l_aload_n (i := 0) C dL_law_1080 rfl rfl ?_
  refine l_iload_n (i := 3) C dL_law_1081 rfl rfl ?_
  refine l_iconst (v := 3) C dL_law_1082 (by decide) ?_
  refine l_iadd C dL_law_1083 ?_
  refine l_sld C (hi 3 (by decide)) dL_law_1084 ?_
  refine l_aload_n (i := 0) C dL_law_1085 rfl rfl ?_
  refine l_iload_n (i := 3) C dL_law_1086 rfl rfl ?_
  refine l_iconst (v := 4) C dL_law_1087 (by decide) ?_
  refine l_iadd C dL_law_1088 ?_
  refine l_sld C (hi 4 (by decide)) dL_law_1089 ?_
  refine l_aload_n (i := 0) C dL_law_1090 rfl rfl ?_
  refine l_iload_n (i := 3) C dL_law_1091 rfl rfl ?_
  refine l_iconst (v := 5) C dL_law_1092 (by decide) ?_
  refine l_iadd C dL_law_1093 ?_
  refine l_sld C (hi 5 (by decide)) dL_law_1094 ?_
  refine l_callM (valc := vi) (r := r) [.int (yx Y (x3 + (1 : Int32)).toNatClampNeg), .int (yx Y (x3 + (2 : Int32)).toNatClampNeg), .int (yx Y (x3 + (3 : Int32)).toNatClampNeg), .int (yx Y (x3 + (4 : Int32)).toNatClampNeg), .int (yx Y (x3 + (5 : Int32)).toNatClampNeg)] [.int r] C lf_127 lv_X7_copy (fun E => c_X7_copy E 0 (yx Y (x3 + (1 : Int32)).toNatClampNeg) (yx Y (x3 + (2 : Int32)).toNatClampNeg) (yx Y (x3 + (3 : Int32)).toNatClampNeg) (yx Y (x3 + (4 : Int32)).toNatClampNeg) (yx Y (x3 + (5 : Int32)).toNatClampNeg) rfl k em) (by decide) (by decide) rfl rfl (Nat.le_of_ble_eq_true rfl) dL_law_1095 ?_
  refine l_ieq C 1231 dL_law_1098 (by decide) ?_
  exact q h1 k1 hI1
set_option maxHeartbeats 4000000 in
set_option maxRecDepth 100000 in
theorem law_27 {Y : Yx} (C : OL Y) (Inv : Hp → Hp → Prop) (st_tell : ∀ a : Int32, SP Inv (fun h => F_X6_tell 0 a h) (fun k => F_X7_tell 0 a k)) {x3 : Int32} (hi : ∀ j : Nat, j < 6 → vp_in (x3 + nI j) (yn Y)) {h k : Hp} (hI : Inv h k) (q : ∀ h' k', Inv h' k' → GL Y 1231 [some (.ref (yb Y)), some (.ref (yB Y + 0)), some (.ref (yB Y + 75 + 0)), some (.int x3)] [] h' k') : GL Y 1103 [some (.ref (yb Y)), some (.ref (yB Y + 0)), some (.ref (yB Y + 75 + 0)), some (.int x3)] [] h k := by
  obtain ⟨r, h1, k1, ex, em, hI1⟩ := st_tell (yx Y (x3 + (1 : Int32)).toNatClampNeg) h k hI
  refine l_aload_n (i := 1) C dL_law_1103 rfl rfl ?_
  refine l_aload_n (i := 0) C dL_law_1104 rfl rfl ?_
  refine l_iload_n (i := 3) C dL_law_1105 rfl rfl ?_
  refine l_iconst (v := 1) C dL_law_1106 (by decide) ?_
  refine l_iadd C dL_law_1107 ?_
  refine l_sld C (hi 1 (by decide)) dL_law_1108 ?_
  refine l_callX (valc := vi) (r := r) [.int (yx Y (x3 + (1 : Int32)).toNatClampNeg)] [] C lf_128 lv_X6_tell (fun E => c_X6_tell E 0 (yx Y (x3 + (1 : Int32)).toNatClampNeg) rfl h ex) (by decide) (by decide) rfl rfl (Nat.le_of_ble_eq_true rfl) dL_law_1109 ?_
  refine l_aload_n (i := 2) C dL_law_1112 rfl rfl ?_
  refine l_aload_n (i := 0) C dL_law_1113 rfl rfl ?_
  refine l_iload_n (i := 3) C dL_law_1114 rfl rfl ?_
  refine l_iconst (v := 1) C dL_law_1115 (by decide) ?_
  refine l_iadd C dL_law_1116 ?_
  refine l_sld C (hi 1 (by decide)) dL_law_1117 ?_
  refine l_callM (valc := vi) (r := r) [.int (yx Y (x3 + (1 : Int32)).toNatClampNeg)] [.int r] C lf_131 lv_X7_tell (fun E => c_X7_tell E 0 (yx Y (x3 + (1 : Int32)).toNatClampNeg) rfl k em) (by decide) (by decide) rfl rfl (Nat.le_of_ble_eq_true rfl) dL_law_1118 ?_
  refine l_ieq C 1231 dL_law_1121 (by decide) ?_
  exact q h1 k1 hI1
set_option maxHeartbeats 4000000 in
set_option maxRecDepth 100000 in
theorem law_28 {Y : Yx} (C : OL Y) (Inv : Hp → Hp → Prop) (st_tap : ∀ a : Int32, SP Inv (fun h => F_X6_tap 0 a h) (fun k => F_X7_tap 0 a k)) {x3 : Int32} (hi : ∀ j : Nat, j < 6 → vp_in (x3 + nI j) (yn Y)) {h k : Hp} (hI : Inv h k) (q : ∀ h' k', Inv h' k' → GL Y 1231 [some (.ref (yb Y)), some (.ref (yB Y + 0)), some (.ref (yB Y + 75 + 0)), some (.int x3)] [] h' k') : GL Y 1126 [some (.ref (yb Y)), some (.ref (yB Y + 0)), some (.ref (yB Y + 75 + 0)), some (.int x3)] [] h k := by
  obtain ⟨r, h1, k1, ex, em, hI1⟩ := st_tap (yx Y (x3 + (1 : Int32)).toNatClampNeg) h k hI
  refine l_aload_n (i := 1) C dL_law_1126 rfl rfl ?_
  refine l_aload_n (i := 0) C dL_law_1127 rfl rfl ?_
  refine l_iload_n (i := 3) C dL_law_1128 rfl rfl ?_
  refine l_iconst (v := 1) C dL_law_1129 (by decide) ?_
  refine l_iadd C dL_law_1130 ?_
  refine l_sld C (hi 1 (by decide)) dL_law_1131 ?_
  refine l_callX (valc := vi) (r := r) [.int (yx Y (x3 + (1 : Int32)).toNatClampNeg)] [] C lf_132 lv_X6_tap (fun E => c_X6_tap E 0 (yx Y (x3 + (1 : Int32)).toNatClampNeg) rfl h ex) (by decide) (by decide) rfl rfl (Nat.le_of_ble_eq_true rfl) dL_law_1132 ?_
  refine l_aload_n (i := 2) C dL_law_1135 rfl rfl ?_
  refine l_aload_n (i := 0) C dL_law_1136 rfl rfl ?_
  refine l_iload_n (i := 3) C dL_law_1137 rfl rfl ?_
  refine l_iconst (v := 1) C dL_law_1138 (by decide) ?_
  refine l_iadd C dL_law_1139 ?_
  refine l_sld C (hi 1 (by decide)) dL_law_1140 ?_
  refine l_callM (valc := vi) (r := r) [.int (yx Y (x3 + (1 : Int32)).toNatClampNeg)] [.int r] C lf_135 lv_X7_tap (fun E => c_X7_tap E 0 (yx Y (x3 + (1 : Int32)).toNatClampNeg) rfl k em) (by decide) (by decide) rfl rfl (Nat.le_of_ble_eq_true rfl) dL_law_1141 ?_
  refine l_ieq C 1231 dL_law_1144 (by decide) ?_
  exact q h1 k1 hI1
set_option maxHeartbeats 4000000 in
set_option maxRecDepth 100000 in
theorem law_29 {Y : Yx} (C : OL Y) (Inv : Hp → Hp → Prop) (st_as : ∀ a b : Int32, SP Inv (fun h => F_X6_as 0 a b h) (fun k => F_X7_as 0 a b k)) {x3 : Int32} (hi : ∀ j : Nat, j < 6 → vp_in (x3 + nI j) (yn Y)) {h k : Hp} (hI : Inv h k) (q : ∀ h' k', Inv h' k' → GL Y 1231 [some (.ref (yb Y)), some (.ref (yB Y + 0)), some (.ref (yB Y + 75 + 0)), some (.int x3)] [] h' k') : GL Y 1149 [some (.ref (yb Y)), some (.ref (yB Y + 0)), some (.ref (yB Y + 75 + 0)), some (.int x3)] [] h k := by
  obtain ⟨r, h1, k1, ex, em, hI1⟩ := st_as (yx Y (x3 + (1 : Int32)).toNatClampNeg) (yx Y (x3 + (2 : Int32)).toNatClampNeg) h k hI
  refine l_aload_n (i := 1) C dL_law_1149 rfl rfl ?_
  refine l_aload_n (i := 0) C dL_law_1150 rfl rfl ?_
  refine l_iload_n (i := 3) C dL_law_1151 rfl rfl ?_
  refine l_iconst (v := 1) C dL_law_1152 (by decide) ?_
  refine l_iadd C dL_law_1153 ?_
  refine l_sld C (hi 1 (by decide)) dL_law_1154 ?_
  refine l_aload_n (i := 0) C dL_law_1155 rfl rfl ?_
  refine l_iload_n (i := 3) C dL_law_1156 rfl rfl ?_
  refine l_iconst (v := 2) C dL_law_1157 (by decide) ?_
  refine l_iadd C dL_law_1158 ?_
  refine l_sld C (hi 2 (by decide)) dL_law_1159 ?_
  refine l_callX (valc := vi) (r := r) [.int (yx Y (x3 + (1 : Int32)).toNatClampNeg), .int (yx Y (x3 + (2 : Int32)).toNatClampNeg)] [] C lf_136 lv_X6_as (fun E => c_X6_as E 0 (yx Y (x3 + (1 : Int32)).toNatClampNeg) (yx Y (x3 + (2 : Int32)).toNatClampNeg) rfl h ex) (by decide) (by decide) rfl rfl (Nat.le_of_ble_eq_true rfl) dL_law_1160 ?_
  refine l_aload_n (i := 2) C dL_law_1163 rfl rfl ?_
  refine l_aload_n (i := 0) C dL_law_1164 rfl rfl ?_
  refine l_iload_n (i := 3) C dL_law_1165 rfl rfl ?_
  refine l_iconst (v := 1) C dL_law_1166 (by decide) ?_
  refine l_iadd C dL_law_1167 ?_
  refine l_sld C (hi 1 (by decide)) dL_law_1168 ?_
  refine l_aload_n (i := 0) C dL_law_1169 rfl rfl ?_
  refine l_iload_n (i := 3) C dL_law_1170 rfl rfl ?_
  refine l_iconst (v := 2) C dL_law_1171 (by decide) ?_
  refine l_iadd C dL_law_1172 ?_
  refine l_sld C (hi 2 (by decide)) dL_law_1173 ?_
  refine l_callM (valc := vi) (r := r) [.int (yx Y (x3 + (1 : Int32)).toNatClampNeg), .int (yx Y (x3 + (2 : Int32)).toNatClampNeg)] [.int r] C lf_139 lv_X7_as (fun E => c_X7_as E 0 (yx Y (x3 + (1 : Int32)).toNatClampNeg) (yx Y (x3 + (2 : Int32)).toNatClampNeg) rfl k em) (by decide) (by decide) rfl rfl (Nat.le_of_ble_eq_true rfl) dL_law_1174 ?_
  refine l_ieq C 1231 dL_law_1177 (by decide) ?_
  exact q h1 k1 hI1
set_option maxHeartbeats 4000000 in
set_option maxRecDepth 100000 in
theorem law_30 {Y : Yx} (C : OL Y) (Inv : Hp → Hp → Prop) (st_trace : SP Inv (fun h => F_X6_trace 0  h) (fun k => F_X7_trace 0  k)) {x3 : Int32} (hi : ∀ j : Nat, j < 6 → vp_in (x3 + nI j) (yn Y)) {h k : Hp} (hI : Inv h k) (q : ∀ h' k', Inv h' k' → GL Y 1231 [some (.ref (yb Y)), some (.ref (yB Y + 0)), some (.ref (yB Y + 75 + 0)), some (.int x3)] [] h' k') : GL Y 1182 [some (.ref (yb Y)), some (.ref (yB Y + 0)), some (.ref (yB Y + 75 + 0)), some (.int x3)] [] h k := by
  obtain ⟨r, h1, k1, ex, em, hI1⟩ := st_trace  h k hI
  refine l_aload_n (i := 1) C dL_law_1182 rfl rfl ?_
  refine l_callX (valc := vi) (r := r) [] [] C lf_140 lv_X6_trace (fun E => c_X6_trace E 0  rfl h ex) (by decide) (by decide) rfl rfl (Nat.le_of_ble_eq_true rfl) dL_law_1183 ?_
  refine l_aload_n (i := 2) C dL_law_1186 rfl rfl ?_
  refine l_callM (valc := vi) (r := r) [] [.int r] C lf_143 lv_X7_trace (fun E => c_X7_trace E 0  rfl k em) (by decide) (by decide) rfl rfl (Nat.le_of_ble_eq_true rfl) dL_law_1187 ?_
  refine l_ieq C 1231 dL_law_1190 (by decide) ?_
  exact q h1 k1 hI1
set_option maxHeartbeats 4000000 in
set_option maxRecDepth 100000 in
theorem law_31 {Y : Yx} (C : OL Y) (Inv : Hp → Hp → Prop) (st_fault : SP Inv (fun h => F_X6_fault 0  h) (fun k => F_X7_fault 0  k)) {x3 : Int32} (hi : ∀ j : Nat, j < 6 → vp_in (x3 + nI j) (yn Y)) {h k : Hp} (hI : Inv h k) (q : ∀ h' k', Inv h' k' → GL Y 1231 [some (.ref (yb Y)), some (.ref (yB Y + 0)), some (.ref (yB Y + 75 + 0)), some (.int x3)] [] h' k') : GL Y 1195 [some (.ref (yb Y)), some (.ref (yB Y + 0)), some (.ref (yB Y + 75 + 0)), some (.int x3)] [] h k := by
  obtain ⟨r, h1, k1, ex, em, hI1⟩ := st_fault  h k hI
  refine l_aload_n (i := 1) C dL_law_1195 rfl rfl ?_
  refine l_callX (valc := vi) (r := r) [] [] C lf_144 lv_X6_fault (fun E => c_X6_fault E 0  rfl h ex) (by decide) (by decide) rfl rfl (Nat.le_of_ble_eq_true rfl) dL_law_1196 ?_
  refine l_aload_n (i := 2) C dL_law_1199 rfl rfl ?_
  refine l_callM (valc := vi) (r := r) [] [.int r] C lf_147 lv_X7_fault (fun E => c_X7_fault E 0  rfl k em) (by decide) (by decide) rfl rfl (Nat.le_of_ble_eq_true rfl) dL_law_1200 ?_
  refine l_ieq C 1231 dL_law_1203 (by decide) ?_
  exact q h1 k1 hI1
set_option maxHeartbeats 4000000 in
set_option maxRecDepth 100000 in
theorem law_32 {Y : Yx} (C : OL Y) (Inv : Hp → Hp → Prop) (st_many : ∀ a : Int32, SP Inv (fun h => F_X6_many 0 a h) (fun k => F_X7_many 0 a k)) {x3 : Int32} (hi : ∀ j : Nat, j < 6 → vp_in (x3 + nI j) (yn Y)) {h k : Hp} (hI : Inv h k) (q : ∀ h' k', Inv h' k' → GL Y 1231 [some (.ref (yb Y)), some (.ref (yB Y + 0)), some (.ref (yB Y + 75 + 0)), some (.int x3)] [] h' k') : GL Y 1208 [some (.ref (yb Y)), some (.ref (yB Y + 0)), some (.ref (yB Y + 75 + 0)), some (.int x3)] [] h k := by
  obtain ⟨r, h1, k1, ex, em, hI1⟩ := st_many (yx Y (x3 + (1 : Int32)).toNatClampNeg) h k hI
  refine l_aload_n (i := 1) C dL_law_1208 rfl rfl ?_
  refine l_aload_n (i := 0) C dL_law_1209 rfl rfl ?_
  refine l_iload_n (i := 3) C dL_law_1210 rfl rfl ?_
  refine l_iconst (v := 1) C dL_law_1211 (by decide) ?_
  refine l_iadd C dL_law_1212 ?_
  refine l_sld C (hi 1 (by decide)) dL_law_1213 ?_
  refine l_callX (valc := vi) (r := r) [.int (yx Y (x3 + (1 : Int32)).toNatClampNeg)] [] C lf_148 lv_X6_many (fun E => c_X6_many E 0 (yx Y (x3 + (1 : Int32)).toNatClampNeg) rfl h ex) (by decide) (by decide) rfl rfl (Nat.le_of_ble_eq_true rfl) dL_law_1214 ?_
  refine l_aload_n (i := 2) C dL_law_1217 rfl rfl ?_
  refine l_aload_n (i := 0) C dL_law_1218 rfl rfl ?_
  refine l_iload_n (i := 3) C dL_law_1219 rfl rfl ?_
  refine l_iconst (v := 1) C dL_law_1220 (by decide) ?_
  refine l_iadd C dL_law_1221 ?_
  refine l_sld C (hi 1 (by decide)) dL_law_1222 ?_
  refine l_callM (valc := vi) (r := r) [.int (yx Y (x3 + (1 : Int32)).toNatClampNeg)] [.int r] C lf_151 lv_X7_many (fun E => c_X7_many E 0 (yx Y (x3 + (1 : Int32)).toNatClampNeg) rfl k em) (by decide) (by decide) rfl rfl (Nat.le_of_ble_eq_true rfl) dL_law_1223 ?_
  refine l_ieq C 1231 dL_law_1226 (by decide) ?_
  exact q h1 k1 hI1
theorem il_gt {n j : Nat} (hn : n ≤ 3072) (hj : j ≤ 3080) (hc : ¬ nI n - 6 < nI j) : j + 6 ≤ n := by
  have h1 : (nI n - 6).toInt = (n : Int) - 6 := by
    have := pk_sub_toInt (a := n) (b := 6) (by omega) (by decide)
    exact this
  rw [Int32.lt_iff_toInt_lt, h1, nI_toInt (by omega)] at hc
  omega
set_option maxHeartbeats 4000000 in
set_option maxRecDepth 100000 in
theorem law_sw {Y : Yx} (C : OL Y) (Inv : Hp → Hp → Prop) (st_dairy : ∀ a b c d : Int32, SP Inv (fun h => F_X6_dairy 0 a b c d h) (fun k => F_X7_dairy 0 a b c d k)) (st_ofCheese : ∀ a b : Int32, SP Inv (fun h => F_X6_ofCheese 0 a b h) (fun k => F_X7_ofCheese 0 a b k)) (st_ofTalk : ∀ a b : Int32, SP Inv (fun h => F_X6_ofTalk 0 a b h) (fun k => F_X7_ofTalk 0 a b k)) (st_move : ∀ a b c : Int32, SP Inv (fun h => F_X6_move 0 a b c h) (fun k => F_X7_move 0 a b c k)) (st_undo : ∀ a : Int32, SP Inv (fun h => F_X6_undo 0 a h) (fun k => F_X7_undo 0 a k)) (st_wall : ∀ a b : Int32, SP Inv (fun h => F_X6_wall 0 a b h) (fun k => F_X7_wall 0 a b k)) (st_where : ∀ a b : Int32, SP Inv (fun h => F_X6_where 0 a b h) (fun k => F_X7_where 0 a b k)) (st_heard : ∀ a : Int32, SP Inv (fun h => F_X6_heard 0 a h) (fun k => F_X7_heard 0 a k)) (st_layer : ∀ a b : Int32, SP Inv (fun h => F_X6_layer 0 a b h) (fun k => F_X7_layer 0 a b k)) (st_deep : ∀ a b : Int32, SP Inv (fun h => F_X6_deep 0 a b h) (fun k => F_X7_deep 0 a b k)) (st_cuts : ∀ a b c d e : Int32, SP Inv (fun h => F_X6_cuts 0 a b c d e h) (fun k => F_X7_cuts 0 a b c d e k)) (st_spare : ∀ a b c : Int32, SP Inv (fun h => F_X6_spare 0 a b c h) (fun k => F_X7_spare 0 a b c k)) (st_shelve : ∀ a : Int32, SP Inv (fun h => F_X6_shelve 0 a h) (fun k => F_X7_shelve 0 a k)) (st_common : SP Inv (fun h => F_X6_common 0  h) (fun k => F_X7_common 0  k)) (st_alone : ∀ a : Int32, SP Inv (fun h => F_X6_alone 0 a h) (fun k => F_X7_alone 0 a k)) (st_reading : ∀ a b c : Int32, SP Inv (fun h => F_X6_reading 0 a b c h) (fun k => F_X7_reading 0 a b c k)) (st_back : ∀ a : Int32, SP Inv (fun h => F_X6_back 0 a h) (fun k => F_X7_back 0 a k)) (st_louds : ∀ a : Int32, SP Inv (fun h => F_X6_louds 0 a h) (fun k => F_X7_louds 0 a k)) (st_words : ∀ a : Int32, SP Inv (fun h => F_X6_words 0 a h) (fun k => F_X7_words 0 a k)) (st_kinds : ∀ a : Int32, SP Inv (fun h => F_X6_kinds 0 a h) (fun k => F_X7_kinds 0 a k)) (st_lay : ∀ a : Int32, SP Inv (fun h => F_X6_lay 0 a h) (fun k => F_X7_lay 0 a k)) (st_odds : ∀ a b c : Int32, SP Inv (fun h => F_X6_odds 0 a b c h) (fun k => F_X7_odds 0 a b c k)) (st_sheet : ∀ a b c : Int32, SP Inv (fun h => F_X6_sheet 0 a b c h) (fun k => F_X7_sheet 0 a b c k)) (st_lose : ∀ a : Int32, SP Inv (fun h => F_X6_lose 0 a h) (fun k => F_X7_lose 0 a k)) (st_put : ∀ a b c : Int32, SP Inv (fun h => F_X6_put 0 a b c h) (fun k => F_X7_put 0 a b c k)) (st_cell : ∀ a b c : Int32, SP Inv (fun h => F_X6_cell 0 a b c h) (fun k => F_X7_cell 0 a b c k)) (st_copy : ∀ a b c d e : Int32, SP Inv (fun h => F_X6_copy 0 a b c d e h) (fun k => F_X7_copy 0 a b c d e k)) (st_tell : ∀ a : Int32, SP Inv (fun h => F_X6_tell 0 a h) (fun k => F_X7_tell 0 a k)) (st_tap : ∀ a : Int32, SP Inv (fun h => F_X6_tap 0 a h) (fun k => F_X7_tap 0 a k)) (st_as : ∀ a b : Int32, SP Inv (fun h => F_X6_as 0 a b h) (fun k => F_X7_as 0 a b k)) (st_trace : SP Inv (fun h => F_X6_trace 0  h) (fun k => F_X7_trace 0  k)) (st_fault : SP Inv (fun h => F_X6_fault 0  h) (fun k => F_X7_fault 0  k)) (st_many : ∀ a : Int32, SP Inv (fun h => F_X6_many 0 a h) (fun k => F_X7_many 0 a k)) {x3 : Int32} (hi : ∀ j : Nat, j < 6 → vp_in (x3 + nI j) (yn Y)) {h k : Hp} (hI : Inv h k) (q : ∀ h' k', Inv h' k' → GL Y 1231 [some (.ref (yb Y)), some (.ref (yB Y + 0)), some (.ref (yB Y + 75 + 0)), some (.int x3)] [] h' k') : GL Y 33 [some (.ref (yb Y)), some (.ref (yB Y + 0)), some (.ref (yB Y + 75 + 0)), some (.int x3)] [.int (yx Y (x3).toNatClampNeg &&& 63)] h k := by
  by_cases hs0 : yx Y (x3).toNatClampNeg &&& 63 = (0 : Int32)
  · refine l_tsIn C 180 (off := 147) dL_law_33 (by rw [hs0]; decide) (by rw [hs0]; decide) (by rw [hs0]; rfl) (by decide) ?_
    exact law_0 C Inv st_dairy hi hI q
  by_cases hs1 : yx Y (x3).toNatClampNeg &&& 63 = (1 : Int32)
  · refine l_tsIn C 233 (off := 200) dL_law_33 (by rw [hs1]; decide) (by rw [hs1]; decide) (by rw [hs1]; rfl) (by decide) ?_
    exact law_1 C Inv st_ofCheese hi hI q
  by_cases hs2 : yx Y (x3).toNatClampNeg &&& 63 = (2 : Int32)
  · refine l_tsIn C 266 (off := 233) dL_law_33 (by rw [hs2]; decide) (by rw [hs2]; decide) (by rw [hs2]; rfl) (by decide) ?_
    exact law_2 C Inv st_ofTalk hi hI q
  by_cases hs3 : yx Y (x3).toNatClampNeg &&& 63 = (3 : Int32)
  · refine l_tsIn C 299 (off := 266) dL_law_33 (by rw [hs3]; decide) (by rw [hs3]; decide) (by rw [hs3]; rfl) (by decide) ?_
    exact law_3 C Inv st_move hi hI q
  by_cases hs4 : yx Y (x3).toNatClampNeg &&& 63 = (4 : Int32)
  · refine l_tsIn C 342 (off := 309) dL_law_33 (by rw [hs4]; decide) (by rw [hs4]; decide) (by rw [hs4]; rfl) (by decide) ?_
    exact law_4 C Inv st_undo hi hI q
  by_cases hs5 : yx Y (x3).toNatClampNeg &&& 63 = (5 : Int32)
  · refine l_tsIn C 365 (off := 332) dL_law_33 (by rw [hs5]; decide) (by rw [hs5]; decide) (by rw [hs5]; rfl) (by decide) ?_
    exact law_5 C Inv st_wall hi hI q
  by_cases hs6 : yx Y (x3).toNatClampNeg &&& 63 = (6 : Int32)
  · refine l_tsIn C 398 (off := 365) dL_law_33 (by rw [hs6]; decide) (by rw [hs6]; decide) (by rw [hs6]; rfl) (by decide) ?_
    exact law_6 C Inv st_where hi hI q
  by_cases hs7 : yx Y (x3).toNatClampNeg &&& 63 = (7 : Int32)
  · refine l_tsIn C 431 (off := 398) dL_law_33 (by rw [hs7]; decide) (by rw [hs7]; decide) (by rw [hs7]; rfl) (by decide) ?_
    exact law_7 C Inv st_heard hi hI q
  by_cases hs8 : yx Y (x3).toNatClampNeg &&& 63 = (8 : Int32)
  · refine l_tsIn C 454 (off := 421) dL_law_33 (by rw [hs8]; decide) (by rw [hs8]; decide) (by rw [hs8]; rfl) (by decide) ?_
    exact law_8 C Inv st_layer hi hI q
  by_cases hs9 : yx Y (x3).toNatClampNeg &&& 63 = (9 : Int32)
  · refine l_tsIn C 487 (off := 454) dL_law_33 (by rw [hs9]; decide) (by rw [hs9]; decide) (by rw [hs9]; rfl) (by decide) ?_
    exact law_9 C Inv st_deep hi hI q
  by_cases hs10 : yx Y (x3).toNatClampNeg &&& 63 = (10 : Int32)
  · refine l_tsIn C 520 (off := 487) dL_law_33 (by rw [hs10]; decide) (by rw [hs10]; decide) (by rw [hs10]; rfl) (by decide) ?_
    exact law_10 C Inv st_cuts hi hI q
  by_cases hs11 : yx Y (x3).toNatClampNeg &&& 63 = (11 : Int32)
  · refine l_tsIn C 583 (off := 550) dL_law_33 (by rw [hs11]; decide) (by rw [hs11]; decide) (by rw [hs11]; rfl) (by decide) ?_
    exact law_11 C Inv st_spare hi hI q
  by_cases hs12 : yx Y (x3).toNatClampNeg &&& 63 = (12 : Int32)
  · refine l_tsIn C 626 (off := 593) dL_law_33 (by rw [hs12]; decide) (by rw [hs12]; decide) (by rw [hs12]; rfl) (by decide) ?_
    exact law_12 C Inv st_shelve hi hI q
  by_cases hs13 : yx Y (x3).toNatClampNeg &&& 63 = (13 : Int32)
  · refine l_tsIn C 649 (off := 616) dL_law_33 (by rw [hs13]; decide) (by rw [hs13]; decide) (by rw [hs13]; rfl) (by decide) ?_
    exact law_13 C Inv st_common hi hI q
  by_cases hs14 : yx Y (x3).toNatClampNeg &&& 63 = (14 : Int32)
  · refine l_tsIn C 662 (off := 629) dL_law_33 (by rw [hs14]; decide) (by rw [hs14]; decide) (by rw [hs14]; rfl) (by decide) ?_
    exact law_14 C Inv st_alone hi hI q
  by_cases hs15 : yx Y (x3).toNatClampNeg &&& 63 = (15 : Int32)
  · refine l_tsIn C 685 (off := 652) dL_law_33 (by rw [hs15]; decide) (by rw [hs15]; decide) (by rw [hs15]; rfl) (by decide) ?_
    exact law_15 C Inv st_reading hi hI q
  by_cases hs16 : yx Y (x3).toNatClampNeg &&& 63 = (16 : Int32)
  · refine l_tsIn C 728 (off := 695) dL_law_33 (by rw [hs16]; decide) (by rw [hs16]; decide) (by rw [hs16]; rfl) (by decide) ?_
    exact law_16 C Inv st_back hi hI q
  by_cases hs17 : yx Y (x3).toNatClampNeg &&& 63 = (17 : Int32)
  · refine l_tsIn C 751 (off := 718) dL_law_33 (by rw [hs17]; decide) (by rw [hs17]; decide) (by rw [hs17]; rfl) (by decide) ?_
    exact law_17 C Inv st_louds hi hI q
  by_cases hs18 : yx Y (x3).toNatClampNeg &&& 63 = (18 : Int32)
  · refine l_tsIn C 774 (off := 741) dL_law_33 (by rw [hs18]; decide) (by rw [hs18]; decide) (by rw [hs18]; rfl) (by decide) ?_
    exact law_18 C Inv st_words hi hI q
  by_cases hs19 : yx Y (x3).toNatClampNeg &&& 63 = (19 : Int32)
  · refine l_tsIn C 797 (off := 764) dL_law_33 (by rw [hs19]; decide) (by rw [hs19]; decide) (by rw [hs19]; rfl) (by decide) ?_
    exact law_19 C Inv st_kinds hi hI q
  by_cases hs20 : yx Y (x3).toNatClampNeg &&& 63 = (20 : Int32)
  · refine l_tsIn C 820 (off := 787) dL_law_33 (by rw [hs20]; decide) (by rw [hs20]; decide) (by rw [hs20]; rfl) (by decide) ?_
    exact law_20 C Inv st_lay hi hI q
  by_cases hs21 : yx Y (x3).toNatClampNeg &&& 63 = (21 : Int32)
  · refine l_tsIn C 843 (off := 810) dL_law_33 (by rw [hs21]; decide) (by rw [hs21]; decide) (by rw [hs21]; rfl) (by decide) ?_
    exact law_21 C Inv st_odds hi hI q
  by_cases hs22 : yx Y (x3).toNatClampNeg &&& 63 = (22 : Int32)
  · refine l_tsIn C 887 (off := 854) dL_law_33 (by rw [hs22]; decide) (by rw [hs22]; decide) (by rw [hs22]; rfl) (by decide) ?_
    exact law_22 C Inv st_sheet hi hI q
  by_cases hs23 : yx Y (x3).toNatClampNeg &&& 63 = (23 : Int32)
  · refine l_tsIn C 930 (off := 897) dL_law_33 (by rw [hs23]; decide) (by rw [hs23]; decide) (by rw [hs23]; rfl) (by decide) ?_
    exact law_23 C Inv st_lose hi hI q
  by_cases hs24 : yx Y (x3).toNatClampNeg &&& 63 = (24 : Int32)
  · refine l_tsIn C 953 (off := 920) dL_law_33 (by rw [hs24]; decide) (by rw [hs24]; decide) (by rw [hs24]; rfl) (by decide) ?_
    exact law_24 C Inv st_put hi hI q
  by_cases hs25 : yx Y (x3).toNatClampNeg &&& 63 = (25 : Int32)
  · refine l_tsIn C 996 (off := 963) dL_law_33 (by rw [hs25]; decide) (by rw [hs25]; decide) (by rw [hs25]; rfl) (by decide) ?_
    exact law_25 C Inv st_cell hi hI q
  by_cases hs26 : yx Y (x3).toNatClampNeg &&& 63 = (26 : Int32)
  · refine l_tsIn C 1040 (off := 1007) dL_law_33 (by rw [hs26]; decide) (by rw [hs26]; decide) (by rw [hs26]; rfl) (by decide) ?_
    exact law_26 C Inv st_copy hi hI q
  by_cases hs27 : yx Y (x3).toNatClampNeg &&& 63 = (27 : Int32)
  · refine l_tsIn C 1103 (off := 1070) dL_law_33 (by rw [hs27]; decide) (by rw [hs27]; decide) (by rw [hs27]; rfl) (by decide) ?_
    exact law_27 C Inv st_tell hi hI q
  by_cases hs28 : yx Y (x3).toNatClampNeg &&& 63 = (28 : Int32)
  · refine l_tsIn C 1126 (off := 1093) dL_law_33 (by rw [hs28]; decide) (by rw [hs28]; decide) (by rw [hs28]; rfl) (by decide) ?_
    exact law_28 C Inv st_tap hi hI q
  by_cases hs29 : yx Y (x3).toNatClampNeg &&& 63 = (29 : Int32)
  · refine l_tsIn C 1149 (off := 1116) dL_law_33 (by rw [hs29]; decide) (by rw [hs29]; decide) (by rw [hs29]; rfl) (by decide) ?_
    exact law_29 C Inv st_as hi hI q
  by_cases hs30 : yx Y (x3).toNatClampNeg &&& 63 = (30 : Int32)
  · refine l_tsIn C 1182 (off := 1149) dL_law_33 (by rw [hs30]; decide) (by rw [hs30]; decide) (by rw [hs30]; rfl) (by decide) ?_
    exact law_30 C Inv st_trace hi hI q
  by_cases hs31 : yx Y (x3).toNatClampNeg &&& 63 = (31 : Int32)
  · refine l_tsIn C 1195 (off := 1162) dL_law_33 (by rw [hs31]; decide) (by rw [hs31]; decide) (by rw [hs31]; rfl) (by decide) ?_
    exact law_31 C Inv st_fault hi hI q
  by_cases hs32 : yx Y (x3).toNatClampNeg &&& 63 = (32 : Int32)
  · refine l_tsIn C 1208 (off := 1175) dL_law_33 (by rw [hs32]; decide) (by rw [hs32]; decide) (by rw [hs32]; rfl) (by decide) ?_
    exact law_32 C Inv st_many hi hI q
  refine l_tsOut C 1231 dL_law_33 (ts_out 33 (by decide) (by decide) (fun j hj => by rcases (show j = 0 ∨ j = 1 ∨ j = 2 ∨ j = 3 ∨ j = 4 ∨ j = 5 ∨ j = 6 ∨ j = 7 ∨ j = 8 ∨ j = 9 ∨ j = 10 ∨ j = 11 ∨ j = 12 ∨ j = 13 ∨ j = 14 ∨ j = 15 ∨ j = 16 ∨ j = 17 ∨ j = 18 ∨ j = 19 ∨ j = 20 ∨ j = 21 ∨ j = 22 ∨ j = 23 ∨ j = 24 ∨ j = 25 ∨ j = 26 ∨ j = 27 ∨ j = 28 ∨ j = 29 ∨ j = 30 ∨ j = 31 ∨ j = 32 by omega) with rfl | rfl | rfl | rfl | rfl | rfl | rfl | rfl | rfl | rfl | rfl | rfl | rfl | rfl | rfl | rfl | rfl | rfl | rfl | rfl | rfl | rfl | rfl | rfl | rfl | rfl | rfl | rfl | rfl | rfl | rfl | rfl | rfl <;> assumption)) (by decide) ?_
  exact q h k hI
set_option maxHeartbeats 4000000 in
set_option maxRecDepth 100000 in
theorem law_loop {Y : Yx} (C : OL Y) (Inv : Hp → Hp → Prop) (st_dairy : ∀ a b c d : Int32, SP Inv (fun h => F_X6_dairy 0 a b c d h) (fun k => F_X7_dairy 0 a b c d k)) (st_ofCheese : ∀ a b : Int32, SP Inv (fun h => F_X6_ofCheese 0 a b h) (fun k => F_X7_ofCheese 0 a b k)) (st_ofTalk : ∀ a b : Int32, SP Inv (fun h => F_X6_ofTalk 0 a b h) (fun k => F_X7_ofTalk 0 a b k)) (st_move : ∀ a b c : Int32, SP Inv (fun h => F_X6_move 0 a b c h) (fun k => F_X7_move 0 a b c k)) (st_undo : ∀ a : Int32, SP Inv (fun h => F_X6_undo 0 a h) (fun k => F_X7_undo 0 a k)) (st_wall : ∀ a b : Int32, SP Inv (fun h => F_X6_wall 0 a b h) (fun k => F_X7_wall 0 a b k)) (st_where : ∀ a b : Int32, SP Inv (fun h => F_X6_where 0 a b h) (fun k => F_X7_where 0 a b k)) (st_heard : ∀ a : Int32, SP Inv (fun h => F_X6_heard 0 a h) (fun k => F_X7_heard 0 a k)) (st_layer : ∀ a b : Int32, SP Inv (fun h => F_X6_layer 0 a b h) (fun k => F_X7_layer 0 a b k)) (st_deep : ∀ a b : Int32, SP Inv (fun h => F_X6_deep 0 a b h) (fun k => F_X7_deep 0 a b k)) (st_cuts : ∀ a b c d e : Int32, SP Inv (fun h => F_X6_cuts 0 a b c d e h) (fun k => F_X7_cuts 0 a b c d e k)) (st_spare : ∀ a b c : Int32, SP Inv (fun h => F_X6_spare 0 a b c h) (fun k => F_X7_spare 0 a b c k)) (st_shelve : ∀ a : Int32, SP Inv (fun h => F_X6_shelve 0 a h) (fun k => F_X7_shelve 0 a k)) (st_common : SP Inv (fun h => F_X6_common 0  h) (fun k => F_X7_common 0  k)) (st_alone : ∀ a : Int32, SP Inv (fun h => F_X6_alone 0 a h) (fun k => F_X7_alone 0 a k)) (st_reading : ∀ a b c : Int32, SP Inv (fun h => F_X6_reading 0 a b c h) (fun k => F_X7_reading 0 a b c k)) (st_back : ∀ a : Int32, SP Inv (fun h => F_X6_back 0 a h) (fun k => F_X7_back 0 a k)) (st_louds : ∀ a : Int32, SP Inv (fun h => F_X6_louds 0 a h) (fun k => F_X7_louds 0 a k)) (st_words : ∀ a : Int32, SP Inv (fun h => F_X6_words 0 a h) (fun k => F_X7_words 0 a k)) (st_kinds : ∀ a : Int32, SP Inv (fun h => F_X6_kinds 0 a h) (fun k => F_X7_kinds 0 a k)) (st_lay : ∀ a : Int32, SP Inv (fun h => F_X6_lay 0 a h) (fun k => F_X7_lay 0 a k)) (st_odds : ∀ a b c : Int32, SP Inv (fun h => F_X6_odds 0 a b c h) (fun k => F_X7_odds 0 a b c k)) (st_sheet : ∀ a b c : Int32, SP Inv (fun h => F_X6_sheet 0 a b c h) (fun k => F_X7_sheet 0 a b c k)) (st_lose : ∀ a : Int32, SP Inv (fun h => F_X6_lose 0 a h) (fun k => F_X7_lose 0 a k)) (st_put : ∀ a b c : Int32, SP Inv (fun h => F_X6_put 0 a b c h) (fun k => F_X7_put 0 a b c k)) (st_cell : ∀ a b c : Int32, SP Inv (fun h => F_X6_cell 0 a b c h) (fun k => F_X7_cell 0 a b c k)) (st_copy : ∀ a b c d e : Int32, SP Inv (fun h => F_X6_copy 0 a b c d e h) (fun k => F_X7_copy 0 a b c d e k)) (st_tell : ∀ a : Int32, SP Inv (fun h => F_X6_tell 0 a h) (fun k => F_X7_tell 0 a k)) (st_tap : ∀ a : Int32, SP Inv (fun h => F_X6_tap 0 a h) (fun k => F_X7_tap 0 a k)) (st_as : ∀ a b : Int32, SP Inv (fun h => F_X6_as 0 a b h) (fun k => F_X7_as 0 a b k)) (st_trace : SP Inv (fun h => F_X6_trace 0  h) (fun k => F_X7_trace 0  k)) (st_fault : SP Inv (fun h => F_X6_fault 0  h) (fun k => F_X7_fault 0  k)) (st_many : ∀ a : Int32, SP Inv (fun h => F_X6_many 0 a h) (fun k => F_X7_many 0 a k)) : ∀ (N j : Nat) (x3 : Int32) (h k : Hp), j ≤ yn Y + 6 → yn Y + 7 ≤ j + N → x3 = nI j → Inv h k → GL Y 18 [some (.ref (yb Y)), some (.ref (yB Y + 0)), some (.ref (yB Y + 75 + 0)), some (.int x3)] [] h k := by
  have hn : yn Y ≤ 3072 := by
    obtain ⟨p, l, e, s, m, below, meth, c, b, n, xs, D, cs⟩ := Y
    exact C.2.1
  intro N
  induction N with
  | zero =>
    intro j x3 h k h1 h2
    exact absurd h2 (by omega)
  | succ N ih =>
    intro j x3 h k hj hjN ex hI
    refine l_iload_n (i := 3) C dL_law_18 rfl rfl ?_
    refine l_aload_n (i := 0) C dL_law_19 rfl rfl ?_
    refine l_slen C dL_law_20 ?_
    refine l_bipush (v := 6) C dL_law_21 (by decide) ?_
    refine l_isub C dL_law_23 ?_
    refine l_igt C 1237 dL_law_24 (by decide) (fun hc => ?_) (fun hc => ?_)
    · refine l_iconst (v := 1) C dL_law_1237 (by decide) ?_
      exact l_ret C dL_law_1238
    · rw [ex] at hc
      have h6 : j + 6 ≤ yn Y := il_gt hn (by omega) hc
      have hi : ∀ i : Nat, i < 6 → vp_in (x3 + nI i) (yn Y) := fun i hi => by
        rw [ex, nI_add]
        exact vp_in_nI (by omega) (by omega)
      have hi0 : vp_in x3 (yn Y) := by
        rw [ex]
        exact vp_in_nI (by omega) (by omega)
      refine l_aload_n (i := 0) C dL_law_27 rfl rfl ?_
      refine l_iload_n (i := 3) C dL_law_28 rfl rfl ?_
      refine l_sld C hi0 dL_law_29 ?_
      refine l_bipush (v := 63) C dL_law_30 (by decide) ?_
      refine l_iand C dL_law_32 ?_
      refine law_sw C Inv st_dairy st_ofCheese st_ofTalk st_move st_undo st_wall st_where st_heard st_layer st_deep st_cuts st_spare st_shelve st_common st_alone st_reading st_back st_louds st_words st_kinds st_lay st_odds st_sheet st_lose st_put st_cell st_copy st_tell st_tap st_as st_trace st_fault st_many hi hI (fun h' k' hI' => ?_)
      refine l_iinc (i := 3) (v := x3 + 6) C [some (.ref (yb Y)), some (.ref (yB Y + 0)), some (.ref (yB Y + 75 + 0)), some (.int (x3 + 6))] dL_law_1231 rfl rfl (by decide) rfl rfl ?_
      refine l_goto C 18 dL_law_1234 (by decide) ?_
      exact ih (j + 6) (x3 + 6) h' k' (by omega) (by omega) (by rw [ex]; exact nI_add j 6) hI'
def hB : Hp := (fun _ _ => 0, fun _ _ => none)
def hC0 : Hp := ((F_X6_init 0 [(0, 6)] hB).getD ([], hB)).2
def hM0 : Hp := ((F_X7_init 0 [(0, 7)] hB).getD ([], hB)).2
theorem iC_sh : (F_X6_init 0 [(0, 6)] hB).map (·.1) = some shC := by decide +kernel
theorem iM_sh : (F_X7_init 0 [(0, 7)] hB).map (·.1) = some shM := by decide +kernel
theorem iC_ok : F_X6_init 0 [(0, 6)] hB = some (shC, hC0) := by
  have h1 := iC_sh
  unfold hC0
  cases hF : F_X6_init 0 [(0, 6)] hB with
  | none => rw [hF] at h1; cases h1
  | some x =>
    rw [hF] at h1
    have h2 : x.1 = shC := Option.some.inj h1
    rw [← h2]
    rfl
theorem iM_ok : F_X7_init 0 [(0, 7)] hB = some (shM, hM0) := by
  have h1 := iM_sh
  unfold hM0
  cases hF : F_X7_init 0 [(0, 7)] hB with
  | none => rw [hF] at h1; cases h1
  | some x =>
    rw [hF] at h1
    have h2 : x.1 = shM := Option.some.inj h1
    rw [← h2]
    rfl
theorem aw_hts {args : Array Value} {s : State} (h : ∀ w ∈ lw_tbl, w.before args s = true) : ∀ w ∈ AW, w.before args s = true := fun w hw => h w (List.mem_filter.mp hw).1
theorem born {D : va_G} {cs : Cs} {s : State} {args : Array Value} {ci N B : Nat} {Cn : String} {T : u_T} {ty : Nat → FieldType} {H1 : Heap} {kC : Class} (hK : va_K D vwCl (tyl cs) s) (hts : ∀ w ∈ AW, w.before args s = true) (h1 : vwCl[ci]? = some (Cn, T, N)) (h5 : ∀ w ∈ u_ws Cn T N, w ∈ AW) (h6 : ∀ k, k < N → parseFieldDescriptor (T k).2.2.1 = some (ty k)) (h7 : nF ci = N) (h8 : ∀ j, j < N → defaultValue (ty j) = if isRf ci j then .null else .int 0) (hkC : s.vm.classes[D.1 ci]? = some kC) (e4 : H1[B]? = some (blank (D.1 ci) kC)) : va_P D vwCl (mw B cs [(0, ci)] hB) H1 := by
  intro k q hk
  obtain ⟨x, hx, rfl⟩ := mw_inv hk
  have hi : k < 1 := (List.getElem?_eq_some_iff.mp hx).1
  rw [show k = 0 by omega] at hx ⊢
  cases hx
  refine ⟨_, h1, (u_born ty hts h5 (hK.1 ci _ h1) hkC e4 h6).to (fun j hj => ?_)⟩
  rw [h8 j hj]
  show _ = (fl B hB 0 ci).getD j .null
  rw [List.getD_eq_getElem?_getD, fl_get (by rw [h7]; exact hj)]
  simp [hB, vO, va_rf]
theorem dfX6 : ∀ j, j < 8 → defaultValue (tyX6 j) = if isRf 6 j then .null else .int 0 := by decide +kernel
theorem dfX7 : ∀ j, j < 33 → defaultValue (tyX7 j) = if isRf 7 j then .null else .int 0 := by decide +kernel
theorem ao_in : Cond.arrayOver (.object RX1) ∈ tables_1 := by decide +kernel
theorem aoa_in : Cond.arrayOver (.array .int) ∈ tables_1 := by decide +kernel
theorem nw_in : ∀ w ∈ NW, w ∈ tables_1 := by decide +kernel
theorem nw_on : ∀ w ∈ NW, w.onTables = true := by decide +kernel
set_option maxHeartbeats 4000000 in
theorem ar_int {s : State} {args : Array Value} (h : (Cond.arrayClass .int).before args s = true) : ∃ c, ArrOfT s c .int ∧ va_RA s c .int := by
  obtain ⟨c, k, comp, h1, h2, h3⟩ := Cond.arrayClass_spec h
  exact ⟨c, fun N z => ⟨(fun k h => by cases h), k, h2, comp, h3⟩, h1⟩
theorem ar_obj {s : State} (h : va_AO RX1 s) : ∃ c, ArrOfT s c (.object RX1) ∧ va_RA s c (.object RX1) := by
  obtain ⟨comp, c, k, h1, h2, h3, h4, h5⟩ := Cond.arrayOver_spec h
  exact ⟨c, fun N z => ⟨(fun k h => by cases h), k, h3, comp, h4⟩, k, comp, h3, h4, h1, h5⟩
theorem ar_arr {s : State} (h : AOA s) : ∃ c, ArrOfT s c (.array .int) ∧ va_RA s c (.array .int) := by
  obtain ⟨comp, c, k, h1, h2, h3, h4, h5⟩ := Jvm.Stand.arrayOver_specB h
  exact ⟨c, fun N z => ⟨(fun k h => by cases h), k, h3, comp, h4⟩, h5⟩
set_option maxHeartbeats 4000000 in
set_option maxRecDepth 100000 in
theorem law_init {p : Program} {l : Launch} {e : Env} {s : State} {m : MethodId} {below : List Frame} {meth : Method} {c : Code} {b n : Nat} {xs : Nat → Int32} {D : va_G} {cs : Cs} {H : Heap} {locs : List Loc} {pc : Nat} {ls : Array Slot} {ce sl : Nat} {rest : List Value} (C0 : lw_At p s m meth c b n xs) (hK : va_K D vwCl (tyl cs) s) (hao : va_AO RX1 s) (haoa : AOA s) (hnw : NWs s) (B : Nat) {idx : Nat} {y : MethodName} {cy : ByteArray} {nLy ty mcy msy ci : Nat} {tsh : Sh} {th : Hp} (hM : CtI (l, D, cs, B) y cy nLy ty mcy msy [.ref (B + 0)] [(0, ci)] hB tsh th) (hc1 : Cond.code y cy nLy none ∈ AW) (hc2 : Cond.initialized y.cls ∈ AW) (hc3 : Cond.methodLink R_law idx y ∈ AW) (hc4 : Cond.instanceMethod y ∈ AW) (hc5 : y.name = "<init>") (hc6 : y.cls ≠ "java/lang/invoke/MethodHandle" ∧ y.cls ≠ "java/lang/invoke/VarHandle" ∧ (parseMethodDescriptor y.desc).map (fun d => d.parameters.length) = some 0) (ht : ty ≤ 60) (hn : nLy ≤ 40) (hsz : ls.size = c.maxLocals) (hce : ce + mcy ≤ 600000) (hsl : sl + msy ≤ 7302250) (hs8 : (rest.map fun v => v.category).sum ≤ 8) (hd : decode code pc = .ok (.invokespecial idx, 3)) (hB0 : s.heap.size ≤ B)
    (hP : va_P D vwCl (mw B cs [(0, ci)] hB) H) (hz : H.size = B + 1) (hS : va_S (fun q => s.heap.size ≤ q) s.heap H locs)
    (q : ∀ (H1 : Heap) (locs1 : List Loc), va_P D vwCl (mw B cs tsh th) H1 → H1.size = B + tsh.length → (∀ x : Nat, x < H.size → ¬ B ≤ x → H1[x]? = H[x]?) → H.size ≤ H1.size → va_S (fun q => s.heap.size ≤ q) s.heap H1 locs1 → W p l e room_1 s m #[Value.ref b] below meth c H1 locs1 (ce + mcy) (sl + msy) (lw_Z below #[Value.ref b] s) (F0 m (pc + 3) ls rest)) : W p l e room_1 s m #[Value.ref b] below meth c H locs ce sl (lw_Z below #[Value.ref b] s) (F0 m pc ls (.ref (B + 0) :: rest)) := by
  obtain ⟨hx, hb, hr, hml, hown, hts, hX, hbl, hlocks, hgv⟩ := id C0
  have hts := aw_hts hts
  have hrun : va_Run p l e room_1 s m #[Value.ref b] below meth c H locs ce sl mcy msy (F0 m pc ls (.ref (B + 0) :: rest)) rest (Qn (l, D, cs, B) tsh th [.ref (B + 0)].toArray) (fun q => B ≤ q) :=
    va_runI (As := []) ⟨hx, hb, rfl, hown, hts⟩ hM (cwI 0 hts (cf_good hc1) rfl rfl rfl (hts _ hc2) (hts _ hc3) (hts _ hc4) hc5 hc6 ⟨by show ty + 1 ≤ 2048; omega, by show 8 + (nLy + 11) + 64 * ty ≤ 84000; omega⟩)
      ⟨fun a U g mk z => ⟨z.1, z.2.1, z.2.2.1, va_K.moved (u := U) (U := U.calling g mk a) (Vm.Alike.refl U.vm) z.2.2.2.1, va_AO.moved (u := U) (U := U.calling g mk a) (Vm.Alike.refl U.vm) z.2.2.2.2.1, AOA.moved (u := U) (U := U.calling g mk a) (Vm.Alike.refl U.vm) z.2.2.2.2.2.1, NWs.same (u := U) (U := U.calling g mk a) rfl z.2.2.2.2.2.2⟩, fun U hU hW => ⟨rfl, by rw [hU]; exact hP, by rw [hU]; exact hz, va_K.moved hW.alike hK, va_AO.moved hW.alike hao, AOA.moved hW.alike haoa, NWs.warm hW hnw⟩⟩ rfl rfl hsz rfl (lv_room hs8) hd ⟨hce, hsl⟩
  intro T hT Xs
  obtain ⟨v, st₀, t, T', Ll, h0, X', hL, f1, f2, ⟨⟨hv, hP1, hz1⟩, hzz, hk⟩, stp⟩ := hrun T hT Xs
  cases hv
  rw [h0] at hzz hk
  obtain ⟨t2, a1, b1⟩ := q T'.heap (locs ++ Ll) (by rw [f1]; exact hP1) (by rw [f1]; exact hz1) (fun x q1 q2 => by rw [f1]; exact hk x q1 q2) (by rw [f1]; exact hzz)
    ⟨Nat.le_trans hS.1 (by rw [f1]; exact hzz), fun x q1 q2 => by
      rw [f1, hk x (Nat.lt_of_lt_of_le q1 hS.1) (fun z => q2 (Nat.le_trans hB0 z))]
      exact hS.2.1 x q1 q2, fun x hx => by
        rcases List.mem_append.mp hx with z | z
        · exact hS.2.2 x z
        · exact Nat.le_trans hB0 (hL x z)⟩ T' rfl X'
  exact ⟨t2, stp t2 a1, b1⟩
set_option maxHeartbeats 4000000 in
set_option maxRecDepth 100000 in
theorem start_of {p : Program} {e : Env} {s : State} {m : MethodId} {below : List Frame} {meth : Method} {c : Code} (l : Launch) {b L : Nat} {xs : Nat → Int32} (hL : L ≤ 3072) (C0 : lw_At p s m meth c b L xs) (Inv : Hp → Hp → Prop) (hI0 : Inv hC0 hM0) (st_dairy : ∀ a b c d : Int32, SP Inv (fun h => F_X6_dairy 0 a b c d h) (fun k => F_X7_dairy 0 a b c d k)) (st_ofCheese : ∀ a b : Int32, SP Inv (fun h => F_X6_ofCheese 0 a b h) (fun k => F_X7_ofCheese 0 a b k)) (st_ofTalk : ∀ a b : Int32, SP Inv (fun h => F_X6_ofTalk 0 a b h) (fun k => F_X7_ofTalk 0 a b k)) (st_move : ∀ a b c : Int32, SP Inv (fun h => F_X6_move 0 a b c h) (fun k => F_X7_move 0 a b c k)) (st_undo : ∀ a : Int32, SP Inv (fun h => F_X6_undo 0 a h) (fun k => F_X7_undo 0 a k)) (st_wall : ∀ a b : Int32, SP Inv (fun h => F_X6_wall 0 a b h) (fun k => F_X7_wall 0 a b k)) (st_where : ∀ a b : Int32, SP Inv (fun h => F_X6_where 0 a b h) (fun k => F_X7_where 0 a b k)) (st_heard : ∀ a : Int32, SP Inv (fun h => F_X6_heard 0 a h) (fun k => F_X7_heard 0 a k)) (st_layer : ∀ a b : Int32, SP Inv (fun h => F_X6_layer 0 a b h) (fun k => F_X7_layer 0 a b k)) (st_deep : ∀ a b : Int32, SP Inv (fun h => F_X6_deep 0 a b h) (fun k => F_X7_deep 0 a b k)) (st_cuts : ∀ a b c d e : Int32, SP Inv (fun h => F_X6_cuts 0 a b c d e h) (fun k => F_X7_cuts 0 a b c d e k)) (st_spare : ∀ a b c : Int32, SP Inv (fun h => F_X6_spare 0 a b c h) (fun k => F_X7_spare 0 a b c k)) (st_shelve : ∀ a : Int32, SP Inv (fun h => F_X6_shelve 0 a h) (fun k => F_X7_shelve 0 a k)) (st_common : SP Inv (fun h => F_X6_common 0  h) (fun k => F_X7_common 0  k)) (st_alone : ∀ a : Int32, SP Inv (fun h => F_X6_alone 0 a h) (fun k => F_X7_alone 0 a k)) (st_reading : ∀ a b c : Int32, SP Inv (fun h => F_X6_reading 0 a b c h) (fun k => F_X7_reading 0 a b c k)) (st_back : ∀ a : Int32, SP Inv (fun h => F_X6_back 0 a h) (fun k => F_X7_back 0 a k)) (st_louds : ∀ a : Int32, SP Inv (fun h => F_X6_louds 0 a h) (fun k => F_X7_louds 0 a k)) (st_words : ∀ a : Int32, SP Inv (fun h => F_X6_words 0 a h) (fun k => F_X7_words 0 a k)) (st_kinds : ∀ a : Int32, SP Inv (fun h => F_X6_kinds 0 a h) (fun k => F_X7_kinds 0 a k)) (st_lay : ∀ a : Int32, SP Inv (fun h => F_X6_lay 0 a h) (fun k => F_X7_lay 0 a k)) (st_odds : ∀ a b c : Int32, SP Inv (fun h => F_X6_odds 0 a b c h) (fun k => F_X7_odds 0 a b c k)) (st_sheet : ∀ a b c : Int32, SP Inv (fun h => F_X6_sheet 0 a b c h) (fun k => F_X7_sheet 0 a b c k)) (st_lose : ∀ a : Int32, SP Inv (fun h => F_X6_lose 0 a h) (fun k => F_X7_lose 0 a k)) (st_put : ∀ a b c : Int32, SP Inv (fun h => F_X6_put 0 a b c h) (fun k => F_X7_put 0 a b c k)) (st_cell : ∀ a b c : Int32, SP Inv (fun h => F_X6_cell 0 a b c h) (fun k => F_X7_cell 0 a b c k)) (st_copy : ∀ a b c d e : Int32, SP Inv (fun h => F_X6_copy 0 a b c d e h) (fun k => F_X7_copy 0 a b c d e k)) (st_tell : ∀ a : Int32, SP Inv (fun h => F_X6_tell 0 a h) (fun k => F_X7_tell 0 a k)) (st_tap : ∀ a : Int32, SP Inv (fun h => F_X6_tap 0 a h) (fun k => F_X7_tap 0 a k)) (st_as : ∀ a b : Int32, SP Inv (fun h => F_X6_as 0 a b h) (fun k => F_X7_as 0 a b k)) (st_trace : SP Inv (fun h => F_X6_trace 0  h) (fun k => F_X7_trace 0  k)) (st_fault : SP Inv (fun h => F_X6_fault 0  h) (fun k => F_X7_fault 0  k)) (st_many : ∀ a : Int32, SP Inv (fun h => F_X6_many 0 a h) (fun k => F_X7_many 0 a k)) : W p l e room_1 s m #[Value.ref b] below meth c s.heap [] 0 0 (lw_Z below #[Value.ref b] s) (entryFrame m ([Value.ref b] : List Value).toArray 4) := by
  obtain ⟨hx, hb, hr, hml, hown, hts, hX, hbl, hlocks, hgv⟩ := id C0
  have hta := aw_hts hts
  have htt : ∀ w ∈ tables_1, w.before #[Value.ref b] s = true := fun w hw => hts w (List.mem_append_right _ hw)
  have hao : va_AO RX1 s := va_AO.of (htt _ ao_in)
  have haoa : AOA s := htt _ aoa_in
  have hnw : NWs s := fun w hw => va_Nw.of (nw_on w hw) (htt _ (nw_in w hw))
  obtain ⟨cI, hI1, hI2⟩ := ar_int (hta _ law_w276)
  obtain ⟨cS, hS1, hS2⟩ := ar_obj hao
  obtain ⟨cA, hA1, hA2⟩ := ar_arr haoa
  obtain ⟨c0, iS0, hKn0⟩ := u_known (C := RX0) (T := TX0) (N := 14) (n := 14) hta il_X0 (hts (.instantiable RX0 14) (List.mem_append_right _ (by decide +kernel)))
  obtain ⟨c1, iS1, hKn1⟩ := u_known (C := RX1) (T := TX1) (N := 3) (n := 3) hta il_X1 (hts (.instantiable RX1 3) (List.mem_append_right _ (by decide +kernel)))
  obtain ⟨c2, iS2, hKn2⟩ := u_known (C := RX2) (T := TX2) (N := 6) (n := 6) hta il_X2 (hts (.instantiable RX2 6) (List.mem_append_right _ (by decide +kernel)))
  obtain ⟨c3, iS3, hKn3⟩ := u_known (C := RX3) (T := TX3) (N := 4) (n := 4) hta il_X3 (hts (.instantiable RX3 4) (List.mem_append_right _ (by decide +kernel)))
  obtain ⟨c4, iS4, hKn4⟩ := u_known (C := RX4) (T := TX4) (N := 8) (n := 8) hta il_X4 (hts (.instantiable RX4 8) (List.mem_append_right _ (by decide +kernel)))
  obtain ⟨c5, iS5, hKn5⟩ := u_known (C := RX5) (T := TX5) (N := 4) (n := 4) hta il_X5 (hts (.instantiable RX5 4) (List.mem_append_right _ (by decide +kernel)))
  obtain ⟨c6, iS6, hKn6⟩ := u_known (C := RX6) (T := TX6) (N := 8) (n := 8) hta il_X6 (hts (.instantiable RX6 8) (List.mem_append_right _ (by decide +kernel)))
  obtain ⟨c7, iS7, hKn7⟩ := u_known (C := RX7) (T := TX7) (N := 33) (n := 33) hta il_X7 (hts (.instantiable RX7 33) (List.mem_append_right _ (by decide +kernel)))
  obtain ⟨dC, dI, hKc⟩ : ∃ (dC : Nat → ClassId) (dI : Nat → Nat → Nat), ∀ (k : Nat) (q : vw_C), vwCl[k]? = some q → u_Kn s q.1 q.2.1 q.2.2 (dC k) (dI k) := by
    refine ⟨fun k => if k = 0 then c0 else if k = 1 then c1 else if k = 2 then c2 else if k = 3 then c3 else if k = 4 then c4 else if k = 5 then c5 else if k = 6 then c6 else c7, fun k => if k = 0 then iS0 else if k = 1 then iS1 else if k = 2 then iS2 else if k = 3 then iS3 else if k = 4 then iS4 else if k = 5 then iS5 else if k = 6 then iS6 else iS7, ?_⟩
    intro k q hq
    match k, hq with
    | 0, hq => cases hq; exact hKn0
    | 1, hq => cases hq; exact hKn1
    | 2, hq => cases hq; exact hKn2
    | 3, hq => cases hq; exact hKn3
    | 4, hq => cases hq; exact hKn4
    | 5, hq => cases hq; exact hKn5
    | 6, hq => cases hq; exact hKn6
    | 7, hq => cases hq; exact hKn7
    | k + 8, hq => simp [vwCl] at hq
  have hK : va_K (dC, dI) vwCl (tyl (cI, cS, cA)) s := ⟨hKc, fun k q h => by
    match k, h with
    | 0, h => cases h; exact ⟨hI1, hI2⟩
    | 1, h => cases h; exact ⟨hS1, hS2⟩
    | 2, h => cases h; exact ⟨hA1, hA2⟩
    | k + 3, h => simp [tyl] at h⟩
  have hl := lv_entry ([.ref b]) (n := 4) (Nat.le_of_ble_eq_true rfl)
  rw [lg_entry_eq]
  generalize (lg_sl ([.ref b]) ++ List.replicate (4 - (lg_sl ([.ref b])).length) Slot.unset).toArray = ls at hl ⊢
  have hl : hasL ls c.maxLocals [some (.ref b), none, none, none] := by rw [hml]; exact hasL.of hl
  have hS0 : va_S (fun q => s.heap.size ≤ q) s.heap s.heap [] := va_S.rf
  refine W.newcK hx hb hown (hta _ law_w266) (hta _ law_w267) (hta _ law_w1) rfl dL_law_0 (by decide) (by decide) (hKc 6 _ rfl).2.1 rfl fun H1 kC hkC e1 z1 o1 => ?_
  have hP1 : va_P (dC, dI) vwCl (mw s.heap.size (cI, cS, cA) [(0, 6)] hB) H1 := born (ty := tyX6) hK hta rfl il_X6 tyX6_ok rfl dfX6 hkC e1
  refine W.eq (g2 := F0 m 3 ls [.ref s.heap.size]) rfl ?_
  refine lv_dup hx hb dL_law_3 rfl ?_
  refine law_init C0 hK hao haoa hnw s.heap.size (c_X6_init (l, (dC, dI), (cI, cS, cA), s.heap.size) 0 [(0, 6)] rfl hB iC_ok) law_w274 law_w1 law_w272 law_w270 rfl (by decide +kernel) (by decide) (by decide) hl.1 (by decide) (by decide) (Nat.le_of_ble_eq_true rfl) dL_law_4 (Nat.le_refl _) hP1 z1 (sS hS0 (by omega) o1) (fun H2 locs2 hP2 z2 o2 z3 hS2 => ?_)
  refine lv_astore_n hx hb dL_law_7 rfl hl.to (by rw [hml]; decide) rfl (fun ls hl2 => ?_)
  have hl : hasL ls c.maxLocals [some (.ref b), some (.ref (s.heap.size + 0)), none, none] := hasL.st1 hl2 rfl rfl
  refine W.newcK hx hb hown (hta _ law_w268) (hta _ law_w269) (hta _ law_w4) rfl dL_law_8 (by decide) (by decide) (hKc 7 _ rfl).2.1 z2 fun H3 kC3 hkC3 e3 z4 o3 => ?_
  have hz2 : s.heap.size + shC.length = s.heap.size + 75 := rfl
  rw [hz2] at e3 z4 o3
  have hP3 : va_P (dC, dI) vwCl (mw (s.heap.size + 75) (cI, cS, cA) [(0, 7)] hB) H3 := born (ty := tyX7) hK hta rfl il_X7 tyX7_ok rfl dfX7 hkC3 e3
  have hPc : va_P (dC, dI) vwCl (mw s.heap.size (cI, cS, cA) shC hC0) H3 := fun i x hx => by
    have h9 := hP2 i x hx
    have h8 := h9.lt
    exact h9.kept (o3 x.1 (by rw [z2, hz2] at h8; exact h8))
  refine W.eq (g2 := F0 m 11 ls [.ref (s.heap.size + 75)]) rfl ?_
  refine lv_dup hx hb dL_law_11 rfl ?_
  refine law_init C0 hK hao haoa hnw (s.heap.size + 75) (c_X7_init (l, (dC, dI), (cI, cS, cA), s.heap.size + 75) 0 [(0, 7)] rfl hB iM_ok) law_w275 law_w4 law_w273 law_w271 rfl (by decide +kernel) (by decide) (by decide) hl.1 (by decide) (by decide) (Nat.le_of_ble_eq_true rfl) dL_law_12 (Nat.le_add_right _ _) hP3 z4 (sS hS2 (by rw [z2, hz2, z4]; omega) (fun x hx => o3 x (by rw [z2, hz2] at hx; exact hx))) (fun H4 locs4 hP4 z5 o4 z6 hS4 => ?_)
  have hPd : va_P (dC, dI) vwCl (mw s.heap.size (cI, cS, cA) shC hC0) H4 := fun i x hx => by
    have h9 := hPc i x hx
    refine h9.kept (o4 x.1 h9.lt ?_)
    have h7 := (mw_D.2 i x hx).2
    rw [hz2] at h7
    omega
  refine lv_astore_n hx hb dL_law_15 rfl hl.to (by rw [hml]; decide) rfl (fun ls hl2 => ?_)
  have hl : hasL ls c.maxLocals [some (.ref b), some (.ref (s.heap.size + 0)), some (.ref (s.heap.size + 75 + 0)), none] := hasL.st1 hl2 rfl rfl
  refine lv_iconst (v := 0) hx hb dL_law_16 (by decide) ?_
  refine lv_istore_n hx hb dL_law_17 rfl hl.to (by rw [hml]; decide) rfl (fun ls hl2 => ?_)
  have hl : hasL ls c.maxLocals [some (.ref b), some (.ref (s.heap.size + 0)), some (.ref (s.heap.size + 75 + 0)), some (.int 0)] := hasL.st1 hl2 rfl rfl
  exact law_loop (Y := (p, l, e, s, m, below, meth, c, b, L, xs, (dC, dI), (cI, cS, cA))) ⟨C0, hL, hK, hta⟩ Inv st_dairy st_ofCheese st_ofTalk st_move st_undo st_wall st_where st_heard st_layer st_deep st_cuts st_spare st_shelve st_common st_alone st_reading st_back st_louds st_words st_kinds st_lay st_odds st_sheet st_lose st_put st_cell st_copy st_tell st_tap st_as st_trace st_fault st_many (L + 7) 0 0 hC0 hM0 (Nat.zero_le _) (by show L + 7 ≤ 0 + (L + 7); omega) nI_0.symm hI0 ls H4 locs4 hl hPd hP4 hS4
