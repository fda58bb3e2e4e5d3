section ZP
variable {p : Program} {l : Launch} {e : Env} {R : Room} {s : State} {m : MethodId} {args : Array Value} {below : List Frame} {meth : Method} {c : Code} {H : Heap} {locs : List Loc} {cells slots : Nat} {Q : State → Prop}
variable {cc : ByteArray} {pc : Nat} {ls : Array Slot} {rest : List Value} {D : va_G} {cl : List vw_C} {A : Nat → Prop} {a : Nat} {tys : List (ClassId × FieldType)} {ws : va_W} {H0 : Heap}
/-- a field is put: as the kit's row, and the heap is as long as before -/
theorem zput (hexec : p.tables.exec = Jvm.exec) (hb : c.code = cc) {own ref C : String} {T : u_T} {N ci index : Nat} {Ts : List Cond} (hts : ∀ w ∈ Ts, w.before args s = true) (hin : ∀ w ∈ u_ws C T N, w ∈ Ts) (ty0 : Nat → FieldType) (hty : ∀ k, k < N → parseFieldDescriptor (T k).2.2.1 = some (ty0 k)) (hnm : ∀ a, a < N → ∀ b, b < N → a ≠ b → (T a).2.1 ≠ (T b).2.1) (hown : s.vm.findClass own = some m.cls) (hK : va_K D cl tys s) (hP : va_P D cl ws H) (hD : va_D A ws) (hS0 : va_S A H0 H locs) (q0 : Nat) {fs : List Value} (he : ws[q0]? = some (a, .inr (ci, fs))) (hc : cl[ci]? = some (C, T, N)) (k : Nat) (hk : k < N) (hlink : (Cond.fieldLink own index ref (T k).2.1 (T k).2.2.1).before args s = true) (hsame : ∀ x, s.fieldFound? (T k).1 (T k).2.1 (T k).2.2.1 = some x → s.fieldFound? ref (T k).2.1 (T k).2.2.1 = some x) (hfin : (T k).2.2.2 = false ∨ ((T k).2.2.2 = true ∧ meth.name = "<init>" ∧ (T k).1 = own)) {ty : FieldType} {v : Value} (hd : parseFieldDescriptor (T k).2.2.1 = some ty) (hn : narrow ty v = v) (hfit : fits ty v = true) (hl : k < fs.length)
    (hdg : decode cc pc = .ok (.putfield index, 3)) (kk : ∀ (H1 : Heap) (locs1 : List Loc), H1.size = H.size → va_P D cl (ws.set q0 (a, .inr (ci, fs.set k v))) H1 → va_S A H0 H1 locs1 → W p l e R s m args below meth c H1 locs1 cells slots Q (F0 m (pc + 3) ls rest)) : W p l e R s m args below meth c H locs cells slots Q (F0 m pc ls (v :: .ref a :: rest)) := by
  have hap := va_apart (own := own) hts hin ty0 hty hnm hK hc
  obtain ⟨r, h1, cell, q1, q2, q3, q4⟩ := hP q0 _ he
  have hr : r = (C, T, N) := Option.some.inj (h1.symm.trans hc)
  subst hr
  obtain ⟨hS, hfc, kC, hkC, hkind⟩ := hK.1 ci _ hc
  obtain ⟨cf, kf, fi, f, hi, hsl⟩ := hS k hk
  have hlay := hts _ (hin _ (u_in_lay hk))
  have hst := (u_facts hfc hkC (u_lays hts hin hk) hi).1
  unfold u_lay at hlay
  rcases hfin with hfin | ⟨hfin, hin2, hdecl⟩
  · rw [if_neg (by rw [hfin]; decide)] at hlay
    have h6 := u_store hfc hkC hkind hlay hi hd hn hfit
    refine W.putK hexec hb (f := f) ⟨hown, hlink, ⟨_, _, _, hsame _ hi⟩, hst⟩ (by rw [q2]; exact h6) q1 q3 (by rw [hsl]; exact k2_hasslot (q4 k hk)) rfl rfl hdg fun H' e1 e2 e3 => ?_
    rw [hsl] at e1 ⊢
    exact kk H' _ e2 (hP.set hD he ⟨_, hc, t_OB.to (V := updV (vp_V fs) k v) ⟨_, e1, q2, q3, t_set q4 hap hk v⟩ (fun j _ => vp_updV_set hl v j)⟩ e3) (hS0.put e2 e3 (hD.2 q0 _ he))
  · rw [if_pos hfin] at hlay
    have hcf : m.cls = cf := by
      obtain ⟨_, _, c', _, _, _, -, -, hf', -, -, -, hown2, -⟩ := Cond.laysFinal_spec hlay
      have e1 : c' = cf := by have := hi.symm.trans hf'; simp at this; exact this.1.symm
      rw [hdecl] at hown2
      rw [← e1]; exact Option.some.inj (hown.symm.trans hown2)
    have h6 := u_fits hfc hkC hkind (Or.inr hlay) hi hd hn hfit
    refine W.putFinK hexec hb hown hlink (hsame _ hi) hst hcf hin2 (by rw [q2]; exact h6) q1 q3 (by rw [hsl]; exact k2_hasslot (q4 k hk)) rfl rfl hdg fun H' e1 e2 e3 => ?_
    rw [hsl] at e1 ⊢
    exact kk H' _ e2 (hP.set hD he ⟨_, hc, t_OB.to (V := updV (vp_V fs) k v) ⟨_, e1, q2, q3, t_set q4 hap hk v⟩ (fun j _ => vp_updV_set hl v j)⟩ e3) (hS0.put e2 e3 (hD.2 q0 _ he))
theorem ziast (hexec : p.tables.exec = Jvm.exec) (hb : c.code = cc) (hK : va_K D cl tys s) (hP : va_P D cl ws H) (hD : va_D A ws) (hS : va_S A H0 H locs) (q0 t0 : Nat) {cA : ClassId} {n : Nat} {f : Nat → Int32} (ha : ws[q0]? = some (a, .inl (cA, n, .inl f))) (ht : tys[t0]? = some (cA, .int)) {i : Int32} {x : Int32} (hin : vp_in i n) (hdg : decode cc pc = .ok (.iastore, 1))
    (kk : ∀ (H1 : Heap) (locs1 : List Loc), H1.size = H.size → va_P D cl (ws.set q0 (a, .inl (cA, n, .inl (upd f i.toNatClampNeg x)))) H1 → va_S A H0 H1 locs1 → W p l e R s m args below meth c H1 locs1 cells slots Q (F0 m (pc + 1) ls rest)) : W p l e R s m args below meth c H locs cells slots Q (F0 m pc ls (.int x :: .int i :: .ref a :: rest)) := by
  refine W.iast hexec hb (hP q0 _ ha) ((hK.2 t0 _ ht).1 n (fun j => .int (f j))) (fun q => by cases q) (by show ¬ (i < 0 ∨ (arrV _ _ _).slots.size ≤ _); rw [arrV_size]; exact hin) rfl rfl hdg fun H1 e z oq => ?_
  refine kk H1 _ z (hP.set hD ha ?_ oq) (hS.put z oq (hD.2 q0 _ ha))
  show H1[a]? = some (vp_cell _ _)
  rw [e]
  rw [vp_cell_i, vp_cell_i, arrV_store]
  congr 2
  funext q
  by_cases hq : q = i.toNatClampNeg
  · subst hq
    simp [updV, upd]
  · simp [updV, upd, hq]
theorem zaast (hexec : p.tables.exec = Jvm.exec) (hb : c.code = cc) (hK : va_K D cl tys s) (hP : va_P D cl ws H) (hD : va_D A ws) (hS : va_S A H0 H locs) (q0 t0 qk ci : Nat) {cA : ClassId} {r : vw_C} {n v : Nat} {vs : List Value} {f : Nat → Option Nat} (ha : ws[q0]? = some (a, .inl (cA, n, .inr (.inr (.inr (.inr f)))))) (ht : tys[t0]? = some (cA, .object r.1)) (hv : ws[qk]? = some (v, .inr (ci, vs))) (hc : cl[ci]? = some r) {i : Int32} (hin : vp_in i n) (hdg : decode cc pc = .ok (.aastore, 1))
    (kk : ∀ (H1 : Heap) (locs1 : List Loc), H1.size = H.size → va_P D cl (ws.set q0 (a, .inl (cA, n, .inr (.inr (.inr (.inr (va_up f i.toNatClampNeg (some v)))))))) H1 → va_S A H0 H1 locs1 → W p l e R s m args below meth c H1 locs1 cells slots Q (F0 m (pc + 1) ls rest)) : W p l e R s m args below meth c H locs cells slots Q (F0 m pc ls (.ref v :: .int i :: .ref a :: rest)) := by
  have hlt : i.toNatClampNeg < n := Nat.not_le.mp fun q => hin (Or.inr q)
  have h0 : ¬ i < 0 := fun q => hin (Or.inl q)
  obtain ⟨r', hr', cellV, g1, g2, g3, -⟩ := hP qk _ hv
  have hcls := (hK.1 ci r hc).2
  obtain ⟨kA, comp, k1, k2, k3, -⟩ := (hK.2 t0 _ ht).2
  have hcomp : comp = D.1 ci := Option.some.inj (k3.symm.trans hcls.1)
  subst hcomp
  obtain ⟨kC, hkC, -⟩ := hcls.2
  refine W.aast hexec hb (hP q0 _ ha) (fun q h => by cases h) (fun h => by cases h) k1 k2 rfl hkC ⟨h0, by show _ < (arrV _ _ _).slots.size; rw [arrV_size]; exact hlt⟩ g1 (fun q h => by rw [g3] at h; cases h) (by rw [g2]; exact hkC) (by rw [g2]; exact va_assign hcls) rfl rfl hdg fun H1 e z oq => ?_
  refine kk H1 _ z (hP.set hD ha ?_ oq) (hS.put z oq (hD.2 q0 _ ha))
  show H1[a]? = some (vp_cell _ _)
  rw [e]
  rw [vp_cell_q, vp_cell_q, arrV_store]
  congr 2
  funext q
  by_cases hq : q = i.toNatClampNeg
  · subst hq
    simp [updV, va_up, va_rf]
  · simp [updV, va_up, hq]
end ZP
abbrev Dx : Type := Program × Env × Room × State × MethodId × Array Value × List Frame × Method × Code × Sh × Hp × Nat × Nat
def pZ (h : Hp) (q : Nat) : Hp := (fun a b => if a < q then h.1 a b else 0, fun a b => if a < q then h.2 a b else none)
def pM (h : Hp) (q N : Nat) : Hp := (fun a b => if a < q then h.1 a b else 0, fun a b => if a < q then h.2 a b else if a = q ∧ b < N then some (q + 1 + b) else none)
def alc {β : Type} (sh : Sh) (h : Hp) (x : Nat × Nat) (k : Nat → Sh → Hp → Option β) : Option β := k sh.length (sh ++ [x]) (pZ h sh.length)
def alm {β : Type} (sh : Sh) (h : Hp) (N K : Nat) (k : Nat → Sh → Hp → Option β) : Option β := k sh.length (sh ++ (3, N) :: List.replicate N (1, K)) (pM h sh.length N)
def bn2 {β : Type} (o : Option (Sh × Hp)) (k : Sh → Hp → Option β) : Option β := o.bind fun p => k p.1 p.2
def rmN (t mc ms : Nat) : Room := { frames := t, cells := mc, slots := ms, locals := 64 * t }
def AOA (U : State) : Prop := (Cond.arrayOver (.array .int)).before #[] U = true
def NW : List Cond := [Cond.methodLinkNest RX6 19 yX4_init RX6, Cond.methodLinkNest RX6 26 yX2_init RX6, Cond.methodLinkNest RX6 33 yX5_init RX6, Cond.methodLinkNest RX6 40 yX0_init RX6, Cond.methodLinkNest RX0 45 yX3_init RX6, Cond.methodLinkNest RX6 55 yX1_init RX6]
def NWs (U : State) : Prop := ∀ w ∈ NW, va_Nw w U
theorem NWs.same {u U : State} (hvm : u.vm = U.vm) (h : NWs u) : NWs U := by
  intro w hw
  have h1 := h w hw
  unfold NW at hw
  simp only [List.mem_cons, List.not_mem_nil, or_false] at hw
  rcases hw with rfl | rfl | rfl | rfl | rfl | rfl <;> exact va_Nw.same rfl hvm h1
theorem NWs.warm {s U : State} (hW : s.WarmedH U.vm) (h : NWs s) : NWs U := by
  intro w hw
  have h1 := h w hw
  unfold NW at hw
  simp only [List.mem_cons, List.not_mem_nil, or_false] at hw
  rcases hw with rfl | rfl | rfl | rfl | rfl | rfl <;> exact va_Nw.warmM hW h1
theorem AOA.moved {u U : State} (hvm : u.vm.Alike U.vm) (h : AOA u) : AOA U := by
  exact arrayOver_alikeB hvm h
theorem isO_ext {sh sh2 : Sh} (h : sh.isPrefixOf sh2 = true) {q ci : Nat} (hq : isO sh q ci = true) : isO sh2 q ci = true := by
  obtain ⟨t, rfl⟩ := List.isPrefixOf_iff_prefix.mp h
  have h1 := isO_sh hq
  have hl := (List.getElem?_eq_some_iff.mp h1).1
  unfold isO
  rw [List.getElem?_append_left hl, h1]
  simp
theorem isO_app {sh xs : Sh} {q ci : Nat} (hq : isO sh q ci = true) : isO (sh ++ xs) q ci = true := isO_ext (List.isPrefixOf_iff_prefix.mpr ⟨xs, rfl⟩) hq
theorem mw_grow {D : va_G} {B : Nat} {cs : Cs} {sh xs : Sh} {h h' : Hp} {H H1 : Heap} (hP : va_P D vwCl (mw B cs sh h) H) (hz : H.size = B + sh.length) (ho : ∀ q, q < H.size → H1[q]? = H[q]?) (hh : ∀ a, a < sh.length → h.1 a = h'.1 a ∧ h.2 a = h'.2 a) (hx : ∀ i x, xs[i]? = some x → va_at D vwCl (B + (sh.length + i), ent B cs h' (sh.length + i) x) H1) : va_P D vwCl (mw B cs (sh ++ xs) h') H1 := by
  intro k q hk
  obtain ⟨x, hx1, rfl⟩ := mw_inv hk
  by_cases hl : k < sh.length
  · rw [List.getElem?_append_left hl] at hx1
    have h1 := hP k _ (mw_get hx1)
    have h2 := hh k hl
    rw [ent_cong h2.1 h2.2] at h1
    exact h1.kept (ho _ (by show B + k < H.size; omega))
  · rw [List.getElem?_append_right (by omega)] at hx1
    have := hx (k - sh.length) x hx1
    rw [show sh.length + (k - sh.length) = k by omega] at this
    exact this
theorem pZ_old {h : Hp} {n : Nat} : ∀ a, a < n → h.1 a = (pZ h n).1 a ∧ h.2 a = (pZ h n).2 a := fun a ha => ⟨by funext b; simp [pZ, ha], by funext b; simp [pZ, ha]⟩
theorem pM_old {h : Hp} {n N : Nat} : ∀ a, a < n → h.1 a = (pM h n N).1 a ∧ h.2 a = (pM h n N).2 a := fun a ha => ⟨by funext b; simp [pM, ha], by funext b; simp [pM, ha]⟩
def Qn (E : Ev) (tsh : Sh) (th : Hp) : Array Value → State → Outcome → State → Prop := fun _ st oc t => (oc = .returned none ∧ va_P E.2.1 vwCl (mw E.2.2.2 E.2.2.1 tsh th) t.heap ∧ t.heap.size = E.2.2.2 + tsh.length) ∧ va_F (fun q => E.2.2.2 ≤ q) st t
def Od (E : Ev) (X : Dx) (cc : ByteArray) (own : String) (nL t mcx msx : Nat) : Prop := match X with
  | (p, e, R, s, m, args, below, meth, c, tsh, th, mc, ms) => p.tables.exec = Jvm.exec ∧ c.code = cc ∧ c.maxLocals = nL ∧ s.vm.findClass own = some m.cls ∧ (∀ w ∈ AW, w.before args s = true) ∧ va_K E.2.1 vwCl (tyl E.2.2.1) s ∧ meth.sig.returnType = none ∧ meth.locks = false ∧ R = rmN t mcx msx ∧ meth.name = "<init>" ∧ mc = mcx ∧ ms = msx ∧ va_AO RX1 s ∧ AOA s ∧ NWs s
def GC (E : Ev) (X : Dx) (pc : Nat) (L : List (Option Value)) (st : List Value) (sh : Sh) (h : Hp) (ce sl : Nat) (o : Option (Sh × Hp)) : Prop := match X with
  | (p, e, R, s, m, args, below, meth, c, tsh, th, mc, ms) => ∀ (sh' : Sh) (h' : Hp), o = some (sh', h') → sh' = tsh → h' = th → ∀ (ls : Array Slot) (H : Heap) (locs : List Loc), hasL ls c.maxLocals L → va_P E.2.1 vwCl (mw E.2.2.2 E.2.2.1 sh h) H → H.size = E.2.2.2 + sh.length → va_S (fun q => E.2.2.2 ≤ q) s.heap H locs →
    W p E.1 e R s m args below meth c H locs ce sl (MQ below (Qn E tsh th) args s mc ms (fun q => E.2.2.2 ≤ q)) (F0 m pc ls st)
def PcI (E : Ev) (sh : Sh) (h : Hp) : State → Prop := fun U => va_P E.2.1 vwCl (mw E.2.2.2 E.2.2.1 sh h) U.heap ∧ U.heap.size = E.2.2.2 + sh.length ∧ va_K E.2.1 vwCl (tyl E.2.2.1) U ∧ va_AO RX1 U ∧ AOA U ∧ NWs U
def CtI (E : Ev) (y : MethodName) (cc : ByteArray) (nL t mc ms : Nat) (av : List Value) (sh : Sh) (h : Hp) (tsh : Sh) (th : Hp) : Prop :=
  Met E.1 y (Cond.code y cc nL none :: AW) (rmN t mc ms) (va_Pc av (PcI E sh h)) (Qn E tsh th) mc ms (fun q => E.2.2.2 ≤ q)
theorem CtI.ofG {E : Ev} {y : MethodName} {cc : ByteArray} {nL t mc ms : Nat} {av : List Value} {sh : Sh} {h : Hp} {o : Option (Sh × Hp)} {sh' : Sh} {h' : Hp} (e : o = some (sh', h')) (hy : plainName y.cls = true) (hn : y.name = "<init>") (hlen : (lg_sl av).length ≤ nL) (L0 : List (Option Value)) (hL0 : Lof nL av = L0)
    (body : ∀ X, Od E X cc y.cls nL t mc ms → GC E X 0 L0 [] sh h 0 0 o) : CtI E y cc nL t mc ms av sh h sh' h' := by
  refine Met.ofW (cc := cc) (maxL := nL) (ret := none) hy rfl ?_
  intro p e s m args below meth c s₁ B hml hv
  obtain ⟨rfl, hP, hz, hK, ha1, ha2, ha3⟩ := hv
  have hx := B.exec
  have hb := B.bytes
  have hr := B.returns
  have hts := atoms_spec (ws := Cond.code y cc nL none :: AW) B.pre
  have hown : s.vm.findClass y.cls = some m.cls := findClass_of_methodNamed B.named
  have hlocks := B.notSynchronized
  have hin : meth.name = y.name := (name_of_methodNamed B.named B.method).1
  have hl := lv_entry av (n := nL) hlen
  rw [lg_entry_eq]
  generalize (lg_sl av ++ List.replicate (nL - (lg_sl av).length) Slot.unset).toArray = ls at hl ⊢
  have hl2 := hasL.of hl
  rw [hL0] at hl2
  exact body (p, e, rmN t mc ms, s, m, av.toArray, below, meth, c, sh', h', mc, ms) ⟨hx, hb, hml, hown, fun w hw => hts w (List.mem_cons_of_mem _ hw), hK, hr, hlocks, rfl, hin.trans hn, rfl, rfl, ha1, ha2, ha3⟩ sh' h' ‹o = some (sh', h')› rfl rfl ls s.heap [] (by rw [hml]; exact hl2) hP hz va_S.rf
section GCR
variable {E : Ev} {X : Dx} {pc : Nat} {L : List (Option Value)} {st : List Value} {sh : Sh} {h : Hp} {ce sl : Nat} {o : Option (Sh × Hp)} {cc : ByteArray} {own : String} {nL t mcx msx : Nat}
theorem k_iconst (C : Od E X cc own nL t mcx msx) {n : Int} {v : Int32} (hd : decode cc pc = .ok (.iconst n, 1)) (hv : Int32.ofInt n = v) (k : GC E X (pc + 1) L (.int v :: st) sh h ce sl o) : GC E X pc L (st) sh h ce sl o := by
  obtain ⟨p, e, R, s, m, args, below, meth, c, tsh, th, mc, ms⟩ := X
  exact fun sh' h' e1 e2 e3 ls H locs hl hP hz hS => lv_iconst C.1 C.2.1 hd hv (k sh' h' e1 e2 e3 ls H locs hl hP hz hS)
theorem k_bipush (C : Od E X cc own nL t mcx msx) {n : Int} {v : Int32} (hd : decode cc pc = .ok (.bipush n, 2)) (hv : (Int8.ofInt n).toInt32 = v) (k : GC E X (pc + 2) L (.int v :: st) sh h ce sl o) : GC E X pc L (st) sh h ce sl o := by
  obtain ⟨p, e, R, s, m, args, below, meth, c, tsh, th, mc, ms⟩ := X
  exact fun sh' h' e1 e2 e3 ls H locs hl hP hz hS => lv_bipush C.1 C.2.1 hd hv (k sh' h' e1 e2 e3 ls H locs hl hP hz hS)
theorem k_sipush (C : Od E X cc own nL t mcx msx) {n : Int} {v : Int32} (hd : decode cc pc = .ok (.sipush n, 3)) (hv : (Int16.ofInt n).toInt32 = v) (k : GC E X (pc + 3) L (.int v :: st) sh h ce sl o) : GC E X pc L (st) sh h ce sl o := by
  obtain ⟨p, e, R, s, m, args, below, meth, c, tsh, th, mc, ms⟩ := X
  exact fun sh' h' e1 e2 e3 ls H locs hl hP hz hS => lv_sipush C.1 C.2.1 hd hv (k sh' h' e1 e2 e3 ls H locs hl hP hz hS)
theorem k_iload_n (C : Od E X cc own nL t mcx msx) {kf : Fin 4} {i : Nat} {x : Int32} (hd : decode cc pc = .ok (.iload_n kf, 1)) (hi : (kf : Nat) = i) (hg : L[i]? = some (some (.int x))) (k : GC E X (pc + 1) L (.int x :: st) sh h ce sl o) : GC E X pc L (st) sh h ce sl o := by
  obtain ⟨p, e, R, s, m, args, below, meth, c, tsh, th, mc, ms⟩ := X
  exact fun sh' h' e1 e2 e3 ls H locs hl hP hz hS => lv_iload_n C.1 C.2.1 hd hi (hl.2.2 i _ hg) (k sh' h' e1 e2 e3 ls H locs hl hP hz hS)
theorem k_aload_n (C : Od E X cc own nL t mcx msx) {kf : Fin 4} {i : Nat} {x : Nat} (hd : decode cc pc = .ok (.aload_n kf, 1)) (hi : (kf : Nat) = i) (hg : L[i]? = some (some (.ref x))) (k : GC E X (pc + 1) L (.ref x :: st) sh h ce sl o) : GC E X pc L (st) sh h ce sl o := by
  obtain ⟨p, e, R, s, m, args, below, meth, c, tsh, th, mc, ms⟩ := X
  exact fun sh' h' e1 e2 e3 ls H locs hl hP hz hS => lv_aload_n C.1 C.2.1 hd hi (hl.2.2 i _ hg) (k sh' h' e1 e2 e3 ls H locs hl hP hz hS)
theorem k_dup (C : Od E X cc own nL t mcx msx) {v : Value} (hd : decode cc pc = .ok (.dup, 1)) (hv : v.category = 1) (k : GC E X (pc + 1) L (v :: v :: st) sh h ce sl o) : GC E X pc L (v :: st) sh h ce sl o := by
  obtain ⟨p, e, R, s, m, args, below, meth, c, tsh, th, mc, ms⟩ := X
  exact fun sh' h' e1 e2 e3 ls H locs hl hP hz hS => lv_dup C.1 C.2.1 hd hv (k sh' h' e1 e2 e3 ls H locs hl hP hz hS)
theorem k_istore_n (C : Od E X cc own nL t mcx msx) {kf : Fin 4} {i : Nat} {x : Int32} (L' : List (Option Value)) (hd : decode cc pc = .ok (.istore_n kf, 1)) (hi : (kf : Nat) = i) (hn : i < nL) (hno : noL L i = true) (hL : L.set i (some (.int x)) = L') (k : GC E X (pc + 1) L' st sh h ce sl o) : GC E X pc L (.int x :: st) sh h ce sl o := by
  obtain ⟨p, e, R, s, m, args, below, meth, c, tsh, th, mc, ms⟩ := X
  exact fun sh' h' e1 e2 e3 ls H locs hl hP hz hS => lv_istore_n C.1 C.2.1 hd hi hl.to (by rw [C.2.2.1]; exact hn) rfl (fun ls hl2 => k sh' h' e1 e2 e3 ls H locs (hasL.st1 hl2 hno hL) hP hz hS)
theorem k_iinc (C : Od E X cc own nL t mcx msx) {i : Nat} {n : Int} {x v : Int32} (L' : List (Option Value)) (hd : decode cc pc = .ok (.iinc i n, 3)) (hg : L[i]? = some (some (.int x))) (hv : x + Int32.ofInt n = v) (hn : i < nL) (hno : noL L i = true) (hL : L.set i (some (.int v)) = L') (k : GC E X (pc + 3) L' st sh h ce sl o) : GC E X pc L st sh h ce sl o := by
  obtain ⟨p, e, R, s, m, args, below, meth, c, tsh, th, mc, ms⟩ := X
  subst hv
  intro sh' h' e1 e2 e3 ls H locs hl hP hz hS
  obtain ⟨j, hj⟩ := List.getElem?_of_mem (lz_mem.mpr hg)
  exact lv_iinc C.1 C.2.1 hd hl.to hj rfl (by rw [C.2.2.1]; exact hn) rfl (fun ls hl2 => k sh' h' e1 e2 e3 ls H locs (hasL.st1 hl2 hno hL) hP hz hS)
theorem k_goto (C : Od E X cc own nL t mcx msx) {off : Int} (tgt : Nat) (hd : decode cc pc = .ok (.goto off, 3)) (ht : (pc : Int) + off = (tgt : Int)) (k : GC E X tgt L st sh h ce sl o) : GC E X pc L st sh h ce sl o := by
  obtain ⟨p, e, R, s, m, args, below, meth, c, tsh, th, mc, ms⟩ := X
  exact fun sh' h' e1 e2 e3 ls H locs hl hP hz hS => lv_goto C.1 C.2.1 hd ht (k sh' h' e1 e2 e3 ls H locs hl hP hz hS)
theorem k_geT (C : Od E X cc own nL t mcx msx) {x y : Int32} {off : Int} (tgt : Nat) (hd : decode cc pc = .ok (.if_icmp .ge off, 3)) (ht : (pc : Int) + off = (tgt : Int)) (hc : y ≤ x) (k : GC E X tgt L st sh h ce sl o) : GC E X pc L (.int y :: .int x :: st) sh h ce sl o := by
  obtain ⟨p, e, R, s, m, args, below, meth, c, tsh, th, mc, ms⟩ := X
  exact fun sh' h' e1 e2 e3 ls H locs hl hP hz hS => lv_icmp_ge C.1 C.2.1 hd ht (fun _ => k sh' h' e1 e2 e3 ls H locs hl hP hz hS) (fun q => absurd hc q)
theorem k_geF (C : Od E X cc own nL t mcx msx) {x y : Int32} {off : Int} (tgt : Nat) (hd : decode cc pc = .ok (.if_icmp .ge off, 3)) (ht : (pc : Int) + off = (tgt : Int)) (hc : ¬ y ≤ x) (k : GC E X (pc + 3) L st sh h ce sl o) : GC E X pc L (.int y :: .int x :: st) sh h ce sl o := by
  obtain ⟨p, e, R, s, m, args, below, meth, c, tsh, th, mc, ms⟩ := X
  exact fun sh' h' e1 e2 e3 ls H locs hl hP hz hS => lv_icmp_ge C.1 C.2.1 hd ht (fun q => absurd q hc) (fun _ => k sh' h' e1 e2 e3 ls H locs hl hP hz hS)
theorem k_obj (C : Od E X cc own nL t mcx msx) {idx a : Nat} (hm : Cond.methodLink own idx objectInit ∈ AW ∧ Cond.instanceMethod objectInit ∈ AW ∧ Cond.code objectInit ⟨#[0xb1]⟩ 1 none ∈ AW) (ht : 1 ≤ t) (hst : (st.map fun v => v.category).sum ≤ 8) (hd : decode cc pc = .ok (.invokespecial idx, 3)) (k : GC E X (pc + 3) L st sh h ce sl o) : GC E X pc L (.ref a :: st) sh h ce sl o := by
  obtain ⟨p, e, R, s, m, args, below, meth, c, tsh, th, mc, ms⟩ := X
  have hR : R = rmN t mcx msx := C.2.2.2.2.2.2.2.2.1
  exact fun sh' h' e1 e2 e3 ls H locs hl hP hz hS => W.objInit C.1 C.2.1 C.2.2.2.1 (C.2.2.2.2.1 _ hm.1) (C.2.2.2.2.1 _ hm.2.1) (C.2.2.2.2.1 _ hm.2.2) rfl hl.1 rfl hd (by rw [hR]; exact ht) (by rw [hR]; show 2 * 0 + _ + 12 ≤ 64 * t; omega) (k sh' h' e1 e2 e3 ls H locs hl hP hz hS)
theorem k_vret (C : Od E X cc own nL t mcx msx) (hc : ce ≤ mcx) (hs : sl ≤ msx) (hd : decode cc pc = .ok (.return_, 1)) : GC E X pc L [] sh h ce sl (some (sh, h)) := by
  obtain ⟨p, e, R, s, m, args, below, meth, c, tsh, th, mc, ms⟩ := X
  intro sh' h' e1 e2 e3 ls H locs hl hP hz hS
  cases e1
  subst e2
  subst e3
  have e4 : mc = mcx := C.2.2.2.2.2.2.2.2.2.2.1
  have e5 : ms = msx := C.2.2.2.2.2.2.2.2.2.2.2.1
  subst e4
  subst e5
  refine W.widen hc hs ?_
  exact W.vret C.1 C.2.1 C.2.2.2.2.2.2.1 (fun t ht hW => ⟨⟨rfl, by rw [ht]; exact hP, by rw [ht]; exact hz⟩, hS.F ht⟩) hS.2.2 hd (hlocks := C.2.2.2.2.2.2.2.1)
theorem mw_DB {B : Nat} {cs : Cs} {sh : Sh} {h : Hp} : va_D (fun q => B ≤ q) (mw B cs sh h) := ⟨mw_D.1, fun k q hk => (mw_D.2 k q hk).1⟩
def FO (own : String) (ci j : Nat) : Prop := ∀ (Cn : String) (T : u_T) (N : Nat), vwCl[ci]? = some (Cn, T, N) → (T j).1 = own
theorem k_putI (C : Od E X cc own nL t mcx msx) {idx ci j q : Nat} {v : Int32} {kk : Hp → Option (Sh × Hp)} (f : GF own idx ci j false false) (hq : isO sh q ci = true) (hd : decode cc pc = .ok (.putfield idx, 3)) (k : ∀ h2 : Hp, GC E X (pc + 3) L st sh h2 ce sl (kk h2)) : GC E X pc L (.int v :: .ref (E.2.2.2 + q) :: st) sh h ce sl (nm (pI h q j v) kk) := by
  have k := k (pI h q j v)
  obtain ⟨p, e, R, s, m, args, below, meth, c, tsh, th, mc, ms⟩ := X
  obtain ⟨Cn, T, N, ty, h1, h2, h3, h4, h5, h6, h7, h8, h9, h10, h11⟩ := f
  have h13 : parseFieldDescriptor (T j).2.2.1 = some .int := by rw [h5 j h2, h10 rfl]
  intro sh' h' e1 e2 e3 ls H locs hl hP hz hS
  refine zput C.1 C.2.1 C.2.2.2.2.1 h4 ty h5 h6 C.2.2.2.1 C.2.2.2.2.2.1 hP mw_DB hS q (mw_get (isO_sh hq)) h1 j h2 (C.2.2.2.2.1 _ h3) (fun _ z => z) (Or.inl h9) h13 rfl rfl (by rw [fl_len, h8]; exact h2) hd (fun H1 locs1 z1 hP1 hS1 => ?_)
  rw [fl_I h7] at hP1
  have := mw_set (B := E.2.2.2) (cs := E.2.2.1) (h := h) (h' := pI h q j v) (isO_sh hq) pI_off
  refine k sh' h' e1 e2 e3 ls H1 locs1 hl ?_ (z1.trans hz) hS1
  rw [← this]
  exact hP1
theorem k_putR (C : Od E X cc own nL t mcx msx) {idx ci j q a : Nat} {fin : Bool} {kk : Hp → Option (Sh × Hp)} (f : GF own idx ci j true fin) (fo : FO own ci j) (hq : isO sh q ci = true) (hd : decode cc pc = .ok (.putfield idx, 3)) (k : ∀ h2 : Hp, GC E X (pc + 3) L st sh h2 ce sl (kk h2)) : GC E X pc L (.ref (E.2.2.2 + a) :: .ref (E.2.2.2 + q) :: st) sh h ce sl (nm (pR h q j (some a)) kk) := by
  have k := k (pR h q j (some a))
  obtain ⟨p, e, R, s, m, args, below, meth, c, tsh, th, mc, ms⟩ := X
  obtain ⟨Cn, T, N, ty, h1, h2, h3, h4, h5, h6, h7, h8, h9, h10, h11⟩ := f
  have h12 := h11 rfl (E.2.2.2 + a)
  have hfin : (T j).2.2.2 = false ∨ ((T j).2.2.2 = true ∧ meth.name = "<init>" ∧ (T j).1 = own) := by
    cases fin with
    | false => exact Or.inl h9
    | true => exact Or.inr ⟨h9, C.2.2.2.2.2.2.2.2.2.1, fo Cn T N h1⟩
  intro sh' h' e1 e2 e3 ls H locs hl hP hz hS
  refine zput C.1 C.2.1 C.2.2.2.2.1 h4 ty h5 h6 C.2.2.2.1 C.2.2.2.2.2.1 hP mw_DB hS q (mw_get (isO_sh hq)) h1 j h2 (C.2.2.2.2.1 _ h3) (fun _ z => z) hfin (h5 j h2) h12.1 h12.2 (by rw [fl_len, h8]; exact h2) hd (fun H1 locs1 z1 hP1 hS1 => ?_)
  rw [fl_R h7] at hP1
  have := mw_set (B := E.2.2.2) (cs := E.2.2.1) (h := h) (h' := pR h q j (some a)) (isO_sh hq) pR_off
  refine k sh' h' e1 e2 e3 ls H1 locs1 hl ?_ (z1.trans hz) hS1
  rw [← this]
  exact hP1
theorem k_getA (C : Od E X cc own nL t mcx msx) {idx ci j q : Nat} {fin : Bool} {kk : Nat → Option (Sh × Hp)} (f : GF own idx ci j true fin) (hq : isO sh q ci = true) (hd : decode cc pc = .ok (.getfield idx, 3)) (k : ∀ a, GC E X (pc + 3) L (.ref (E.2.2.2 + a) :: st) sh h ce sl (kk a)) : GC E X pc L (.ref (E.2.2.2 + q) :: st) sh h ce sl ((h.2 q j).bind kk) := by
  cases hy : h.2 q j with
  | none =>
    obtain ⟨p, e, R, s, m, args, below, meth, c, tsh, th, mc, ms⟩ := X
    exact fun sh' h' e1 => by cases e1
  | some a =>
    have k := k a
    obtain ⟨p, e, R, s, m, args, below, meth, c, tsh, th, mc, ms⟩ := X
    obtain ⟨Cn, T, N, ty, h1, h2, h3, h4, h5, h6, h7, h8, h9, h10, h11⟩ := f
    exact fun sh' h' e1 e2 e3 ls H locs hl hP hz hS => va_get (v := .ref (E.2.2.2 + a)) C.1 C.2.1 C.2.2.2.2.1 h4 C.2.2.2.1 C.2.2.2.2.2.1 hP q (mw_get (isO_sh hq)) h1 j h2 (C.2.2.2.2.1 _ h3) (fun _ z => z) (by rw [fl_get (by rw [h8]; exact h2), h7, hy]; rfl) hd (k sh' h' e1 e2 e3 ls H locs hl hP hz hS)
theorem k_ck {b : Bool} (k : b = true → GC E X pc L st sh h ce sl o) : GC E X pc L st sh h ce sl (ck b o) := by
  cases b with
  | true => exact k rfl
  | false =>
    obtain ⟨p, e, R, s, m, args, below, meth, c, tsh, th, mc, ms⟩ := X
    exact fun sh' h' e1 => by cases e1
theorem k_iast (C : Od E X cc own nL t mcx msx) {q : Nat} {i v : Int32} {kk : Hp → Option (Sh × Hp)} (hd : decode cc pc = .ok (.iastore, 1)) (k : ∀ h2 : Hp, GC E X (pc + 1) L st sh h2 ce sl (kk h2)) : GC E X pc L (.int v :: .int i :: .ref (E.2.2.2 + q) :: st) sh h ce sl (ck (aIn sh q i) (nm (pI h q i.toNatClampNeg v) kk)) := by
  refine k_ck (fun hb => ?_)
  obtain ⟨n, h1, h2, h3⟩ := aIn_sh hb
  have k := k (pI h q i.toNatClampNeg v)
  obtain ⟨p, e, R, s, m, args, below, meth, c, tsh, th, mc, ms⟩ := X
  intro sh' h' e1 e2 e3 ls H locs hl hP hz hS
  refine ziast C.1 C.2.1 C.2.2.2.2.2.1 hP mw_DB hS q 0 (mw_get h1) rfl h2 hd (fun H1 locs1 z1 hP1 hS1 => ?_)
  refine k sh' h' e1 e2 e3 ls H1 locs1 hl ?_ (z1.trans hz) hS1
  have e9 : upd (h.1 q) i.toNatClampNeg v = (pI h q i.toNatClampNeg v).1 q := by
    funext b
    simp [upd, pI, u2]
  rw [e9] at hP1
  have := mw_set (B := E.2.2.2) (cs := E.2.2.1) (h := h) (h' := pI h q i.toNatClampNeg v) h1 pI_off
  rw [← this]
  exact hP1
theorem k_aast (C : Od E X cc own nL t mcx msx) {q a : Nat} {i : Int32} {kk : Hp → Option (Sh × Hp)} (ha : isO sh a 1 = true) (hd : decode cc pc = .ok (.aastore, 1)) (k : ∀ h2 : Hp, GC E X (pc + 1) L st sh h2 ce sl (kk h2)) : GC E X pc L (.ref (E.2.2.2 + a) :: .int i :: .ref (E.2.2.2 + q) :: st) sh h ce sl (ck (aRn sh 2 q i) (nm (pR h q i.toNatClampNeg (some a)) kk)) := by
  refine k_ck (fun hb => ?_)
  obtain ⟨n, h1, h2, h3⟩ := aRn_sh hb
  have k := k (pR h q i.toNatClampNeg (some a))
  obtain ⟨p, e, R, s, m, args, below, meth, c, tsh, th, mc, ms⟩ := X
  intro sh' h' e1 e2 e3 ls H locs hl hP hz hS
  refine zaast C.1 C.2.1 C.2.2.2.2.2.1 hP mw_DB hS q 1 a 1 (r := (RX1, TX1, nF 1)) (mw_get h1) rfl (mw_get (isO_sh ha)) rfl h2 hd (fun H1 locs1 z1 hP1 hS1 => ?_)
  refine k sh' h' e1 e2 e3 ls H1 locs1 hl ?_ (z1.trans hz) hS1
  have e9 : va_up (rA E.2.2.2 h q) i.toNatClampNeg (some (E.2.2.2 + a)) = rA E.2.2.2 (pR h q i.toNatClampNeg (some a)) q := by
    funext b
    by_cases hb : b = i.toNatClampNeg
    · subst hb
      simp [va_up, rA, pR, u2]
    · simp [va_up, rA, pR, u2, hb]
  rw [e9] at hP1
  have := mw_set (B := E.2.2.2) (cs := E.2.2.1) (h := h) (h' := pR h q i.toNatClampNeg (some a)) h1 pR_off
  rw [← this]
  exact hP1
def GN (own : String) (idx ci N : Nat) : Prop := ∃ (Cn : String) (T : u_T) (ty : Nat → FieldType), vwCl[ci]? = some (Cn, T, N) ∧ Cond.classLink own idx Cn ∈ AW ∧ Cond.instantiable Cn N ∈ AW ∧ Cond.initialized Cn ∈ AW ∧ (∀ w ∈ u_ws Cn T N, w ∈ AW) ∧ (∀ k, k < N → parseFieldDescriptor (T k).2.2.1 = some (ty k)) ∧ nF ci = N ∧ ∀ j, j < N → defaultValue (ty j) = if isRf ci j then .null else .int 0
theorem sS {A : Nat → Prop} {H0 H H1 : Heap} {locs : List Loc} (hS : va_S A H0 H locs) (hz : H.size ≤ H1.size) (ho : ∀ q, q < H.size → H1[q]? = H[q]?) : va_S A H0 H1 locs := ⟨Nat.le_trans hS.1 hz, fun x h1 h2 => (ho x (Nat.lt_of_lt_of_le h1 hS.1)).trans (hS.2.1 x h1 h2), hS.2.2⟩
theorem k_new (C : Od E X cc own nL t mcx msx) {idx ci N : Nat} {kk : Nat → Sh → Hp → Option (Sh × Hp)} (f : GN own idx ci N) (hd : decode cc pc = .ok (.new idx, 3)) (hc : ce + 1 ≤ mcx) (hs : sl + N ≤ msx) (k : ∀ q sh2 h2, isO sh2 q ci = true → (∀ a c, isO sh a c = true → isO sh2 a c = true) → GC E X (pc + 3) L (.ref (E.2.2.2 + q) :: st) sh2 h2 (ce + 1) (sl + N) (kk q sh2 h2)) : GC E X pc L st sh h ce sl (alc sh h (0, ci) kk) := by
  have k := k sh.length (sh ++ [(0, ci)]) (pZ h sh.length) (by unfold isO; simp) (fun a c z => isO_app z)
  obtain ⟨p, e, R, s, m, args, below, meth, c, tsh, th, mc, ms⟩ := X
  obtain ⟨Cn, T, ty, h1, h2, h3, h4, h5, h6, h7, h8⟩ := f
  have hR : R = rmN t mcx msx := C.2.2.2.2.2.2.2.2.1
  have hKn := C.2.2.2.2.2.1.1 ci _ h1
  intro sh' h' e1 e2 e3 ls H locs hl hP hz hS
  refine W.newcK C.1 C.2.1 C.2.2.2.1 (C.2.2.2.2.1 _ h2) (C.2.2.2.2.1 _ h3) (C.2.2.2.2.1 _ h4) rfl hd (by rw [hR]; exact hc) (by rw [hR]; exact hs) hKn.2.1 hz fun H1 kC hkC e4 z1 o1 => ?_
  refine k sh' h' e1 e2 e3 ls H1 locs hl (mw_grow hP hz (fun q hq => o1 q (by omega)) pZ_old (fun i x hx => ?_)) (by rw [z1, List.length_append]; simp; omega) (sS hS (by omega) (fun q hq => o1 q (by omega)))
  have hi : i < 1 := (List.getElem?_eq_some_iff.mp hx).1
  rw [show i = 0 by omega] at hx ⊢
  cases hx
  refine ⟨_, h1, (u_born ty C.2.2.2.2.1 h5 hKn hkC e4 h6).to (fun j hj => ?_)⟩
  rw [h8 j hj]
  show _ = (fl E.2.2.2 (pZ h sh.length) (sh.length + 0) ci).getD j .null
  rw [List.getD_eq_getElem?_getD, fl_get (by rw [h7]; exact hj)]
  simp [pZ, vO, va_rf]
theorem k_newa (C : Od E X cc own nL t mcx msx) {n : Int32} {N : Nat} {kk : Nat → Sh → Hp → Option (Sh × Hp)} (hw : Cond.arrayClass .int ∈ AW) (hn : ¬ n < 0) (hN : n.toNatClampNeg = N) (hb4 : N * 4 ≤ 536870912) (hd : decode cc pc = .ok (.newarray .int, 2)) (hc : ce + 1 ≤ mcx) (hs : sl + N ≤ msx) (k : ∀ q sh2 h2, (∀ a c, isO sh a c = true → isO sh2 a c = true) → GC E X (pc + 2) L (.ref (E.2.2.2 + q) :: st) sh2 h2 (ce + 1) (sl + N) (kk q sh2 h2)) : GC E X pc L (.int n :: st) sh h ce sl (alc sh h (1, N) kk) := by
  have k := k sh.length (sh ++ [(1, N)]) (pZ h sh.length) (fun a c z => isO_app z)
  obtain ⟨p, e, R, s, m, args, below, meth, c, tsh, th, mc, ms⟩ := X
  have hR : R = rmN t mcx msx := C.2.2.2.2.2.2.2.2.1
  intro sh' h' e1 e2 e3 ls H locs hl hP hz hS
  refine va_newaK (atype := .int) C.1 C.2.1 (by exact C.2.2.2.2.1 (Cond.arrayClass .int) hw) rfl hd rfl hn hN hb4 (by rw [hR]; exact hc) (by rw [hR]; exact hs) hz fun H1 cA e4 z1 o1 hAr hNm => ?_
  have hcA : cA = E.2.2.1.1 := Option.some.inj (hNm.symm.trans (C.2.2.2.2.2.1.2 0 _ rfl).2)
  subst hcA
  refine k sh' h' e1 e2 e3 ls H1 locs hl (mw_grow hP hz (fun q hq => o1 q (by omega)) pZ_old (fun i x hx => ?_)) (by rw [z1, List.length_append]; simp; omega) (sS hS (by omega) (fun q hq => o1 q (by omega)))
  have hi : i < 1 := (List.getElem?_eq_some_iff.mp hx).1
  rw [show i = 0 by omega] at hx ⊢
  cases hx
  show H1[E.2.2.2 + (sh.length + 0)]? = some (vp_cell _ _)
  rw [vp_cell_i]
  rw [show (fun j => Value.int ((pZ h sh.length).1 (sh.length + 0) j)) = (fun _ => Value.int 0) by funext j; simp [pZ]]
  exact e4
theorem k_anew (C : Od E X cc own nL t mcx msx) {idx : Nat} {n : Int32} {N : Nat} {kk : Nat → Sh → Hp → Option (Sh × Hp)} (hw : Cond.classLink own idx RX1 ∈ AW) (hn : ¬ n < 0) (hN : n.toNatClampNeg = N) (hb4 : N * 4 ≤ 536870912) (hd : decode cc pc = .ok (.anewarray idx, 3)) (hc : ce + 1 ≤ mcx) (hs : sl + N ≤ msx) (k : ∀ q sh2 h2, (∀ a c, isO sh a c = true → isO sh2 a c = true) → GC E X (pc + 3) L (.ref (E.2.2.2 + q) :: st) sh2 h2 (ce + 1) (sl + N) (kk q sh2 h2)) : GC E X pc L (.int n :: st) sh h ce sl (alc sh h (2, N) kk) := by
  have k := k sh.length (sh ++ [(2, N)]) (pZ h sh.length) (fun a c z => isO_app z)
  obtain ⟨p, e, R, s, m, args, below, meth, c, tsh, th, mc, ms⟩ := X
  have hR : R = rmN t mcx msx := C.2.2.2.2.2.2.2.2.1
  have hAO : va_AO RX1 s := C.2.2.2.2.2.2.2.2.2.2.2.2.1
  intro sh' h' e1 e2 e3 ls H locs hl hP hz hS
  subst hN
  refine W.anew C.1 C.2.1 C.2.2.2.1 (C.2.2.2.2.1 _ hw) (va_AO.use hAO) rfl hd rfl hn hb4 (by rw [hR]; exact hc) (by rw [hR]; exact hs) fun cA kA comp f1 f2 f3 f4 => ?_
  obtain ⟨kA2, comp2, g1, g2, g3, g4⟩ := (C.2.2.2.2.2.1.2 1 _ rfl).2
  have hcA : cA = E.2.2.1.2.1 := Option.some.inj (f1.symm.trans g4)
  subst hcA
  generalize hH1 : H.push ({ cls := E.2.2.1.2.1, slots := Array.replicate n.toNatClampNeg .null, vm := .none } : Cell) = H1
  have z1 : H1.size = H.size + 1 := by rw [← hH1, Array.size_push]
  have e4 : H1[H.size]? = some (arrV E.2.2.1.2.1 n.toNatClampNeg (fun _ => .null)) := by rw [← hH1, Array.getElem?_push_size, ← arrV_new]
  have o1 : ∀ q : Nat, q < H.size → H1[q]? = H[q]? := fun q hq => by rw [← hH1, Array.getElem?_push, if_neg (Nat.ne_of_lt hq)]
  rw [hz] at e4
  have kq := k sh' h' e1 e2 e3 ls H1 locs hl (mw_grow hP hz o1 pZ_old (fun i x hx => by
    have hi : i < 1 := (List.getElem?_eq_some_iff.mp hx).1
    rw [show i = 0 by omega] at hx ⊢
    cases hx
    show H1[E.2.2.2 + (sh.length + 0)]? = some (vp_cell _ _)
    rw [vp_cell_q]
    rw [show (fun j => va_rf (rA E.2.2.2 (pZ h sh.length) (sh.length + 0) j)) = (fun _ => Value.null) by funext j; simp [pZ, rA, va_rf]]
    exact e4)) (by rw [z1, hz, List.length_append]; simp; omega) (sS hS (by omega) o1)
  rw [← hz] at kq
  exact kq
theorem vz_outer (c : ClassId) (N h0 : Nat) : ∀ i : Nat, Jvm.Free.Multi.outerC c N h0 i = arrV c N (fun j => va_rf (if j < i then some (h0 + 1 + j) else none))
  | 0 => by
    show ({ cls := c, slots := Array.replicate N .null, vm := .none } : Cell) = _
    rw [arrV_new]
    refine congrArg (arrV c N) (funext fun j => ?_)
    simp [va_rf]
  | i + 1 => by
    show (Jvm.Free.Multi.outerC c N h0 i).setSlot i (.ref (h0 + 1 + i)) = _
    rw [vz_outer c N h0 i, arrV_store]
    refine congrArg (arrV c N) (funext fun j => ?_)
    by_cases e : j = i
    · subst e
      simp [updV, va_rf]
    · by_cases h : j < i
      · simp [updV, e, h, Nat.lt_succ_of_lt h]
      · simp [updV, e, h, show ¬ j < i + 1 by omega]
theorem k_mna (C : Od E X cc own nL t mcx msx) {idx : Nat} {n m2 : Int32} {N K : Nat} {kk : Nat → Sh → Hp → Option (Sh × Hp)} (hw : Cond.classLink own idx ("[" ++ (FieldType.array .int).toString) ∈ AW) (hw2 : Cond.arrayClass .int ∈ AW) (hn : ¬ n < 0) (hm : ¬ m2 < 0) (hN : n.toNatClampNeg = N) (hK : m2.toNatClampNeg = K) (hb4 : N * 4 ≤ 536870912) (hb5 : K * 4 ≤ 536870912) (hd : decode cc pc = .ok (.multianewarray idx 2, 4)) (hc : ce + (1 + N) ≤ mcx) (hs : sl + (N + N * K) ≤ msx) (k : ∀ q sh2 h2, (∀ a c, isO sh a c = true → isO sh2 a c = true) → GC E X (pc + 4) L (.ref (E.2.2.2 + q) :: st) sh2 h2 (ce + 1 + N) (sl + N + N * K) (kk q sh2 h2)) : GC E X pc L (.int m2 :: .int n :: st) sh h ce sl (alm sh h N K kk) := by
  have k := k sh.length (sh ++ (3, N) :: List.replicate N (1, K)) (pM h sh.length N) (fun a c z => isO_app z)
  obtain ⟨p, e, R, s, m, args, below, meth, c, tsh, th, mc, ms⟩ := X
  have hR : R = rmN t mcx msx := C.2.2.2.2.2.2.2.2.1
  have hAO : AOA s := C.2.2.2.2.2.2.2.2.2.2.2.2.2.1
  intro sh' h' e1 e2 e3 ls H locs hl hP hz hS
  subst hN
  subst hK
  intro T hT Xs
  obtain ⟨vm₁, cA, comp, -, fA, fC, hO, hI, X', step⟩ := Xs.multianewarray2F C.1 (ty := .int) C.2.2.2.1 (C.2.2.2.2.1 _ hw) hAO (C.2.2.2.2.1 _ hw2) (g := F0 m pc ls (.int m2 :: .int n :: st)) rfl (by rw [C.2.1]; exact hd) rfl hn hm hb4 hb5 (by omega) rfl rfl (by rw [hR]; exact hc) (by rw [hR]; exact hs)
  have hcA : cA = E.2.2.1.2.2 := Option.some.inj (fA.symm.trans (C.2.2.2.2.2.1.2 2 _ rfl).2)
  have hcm : comp = E.2.2.1.1 := Option.some.inj (fC.symm.trans (C.2.2.2.2.2.1.2 0 _ rfl).2)
  subst hcA
  subst hcm
  generalize hF : Jvm.Free.Multi.fill (T.setVm vm₁) E.2.2.1.2.2 E.2.2.1.1 n.toNatClampNeg m2.toNatClampNeg (defaultValue .int) n.toNatClampNeg = F at X' step
  have hTh : (T.setVm vm₁).heap = H := hT
  obtain ⟨f1, f2, -, -⟩ := Jvm.Free.Multi.fill_facts (T.setVm vm₁) E.2.2.1.2.2 E.2.2.1.1 n.toNatClampNeg m2.toNatClampNeg (defaultValue .int) n.toNatClampNeg
  rw [hF, hTh] at f1 f2
  have hold : ∀ x : Nat, x < H.size → F.heap[x]? = H[x]? := fun x hx => by
    have := Jvm.Free.Multi.fill_old (T.setVm vm₁) E.2.2.1.2.2 E.2.2.1.1 n.toNatClampNeg m2.toNatClampNeg (defaultValue .int) (a := x) (by rw [hTh]; exact hx) n.toNatClampNeg
    rw [hF, hTh] at this
    exact this
  have hrow : ∀ j : Nat, j < n.toNatClampNeg → F.heap[H.size + 1 + j]? = some (Jvm.Free.Multi.innerC E.2.2.1.1 m2.toNatClampNeg (defaultValue .int)) := fun j hj => by
    have := Jvm.Free.Multi.fill_inner (T.setVm vm₁) E.2.2.1.2.2 E.2.2.1.1 n.toNatClampNeg m2.toNatClampNeg (defaultValue .int) n.toNatClampNeg j hj
    rw [hF, hTh] at this
    exact this
  rw [vz_outer] at f2
  obtain ⟨t2, a1, b1⟩ := k sh' h' e1 e2 e3 ls F.heap locs hl (mw_grow hP hz hold pM_old (fun i x hx => by
    cases i with
    | zero =>
      cases hx
      show F.heap[E.2.2.2 + (sh.length + 0)]? = some (vp_cell _ _)
      rw [vp_cell_q, show E.2.2.2 + (sh.length + 0) = H.size by rw [hz]; rfl, f2]
      congr 2
      funext j
      by_cases hj : j < n.toNatClampNeg
      · simp [hj, rA, pM, va_rf, hz, Nat.add_assoc]
      · simp [hj, rA, pM, va_rf]
    | succ i =>
      have hx2 : (List.replicate n.toNatClampNeg ((1, m2.toNatClampNeg) : Nat × Nat))[i]? = some x := hx
      have hi : i < n.toNatClampNeg := by
        have := (List.getElem?_eq_some_iff.mp hx2).1
        simpa using this
      have hxe : x = (1, m2.toNatClampNeg) := by
        rw [List.getElem?_replicate, if_pos hi] at hx2
        exact (Option.some.inj hx2).symm
      subst hxe
      show F.heap[E.2.2.2 + (sh.length + (i + 1))]? = some (vp_cell _ _)
      rw [vp_cell_i, show E.2.2.2 + (sh.length + (i + 1)) = H.size + 1 + i by rw [hz]; omega, hrow i hi]
      rw [show (fun j => Value.int ((pM h sh.length n.toNatClampNeg).1 (sh.length + (i + 1)) j)) = (fun _ => Value.int 0) by funext j; simp [pM]; exact fun q => absurd q (by omega)]
      rw [← arrV_new]
      rfl)) (by rw [f1, hz, List.length_append]; simp; omega) (sS hS (by rw [f1]; omega) hold) F rfl X'
  refine ⟨t2, step t2 ?_, b1⟩
  have e : T.heap.size = E.2.2.2 + sh.length := by rw [hT]; exact hz
  rw [e]
  exact a1
def CN (own : String) (idx : Nat) (y : MethodName) (host : String) (cy : ByteArray) (nLy : Nat) : Prop := Cond.code y cy nLy none ∈ AW ∧ Cond.initialized y.cls ∈ AW ∧ Cond.methodLinkNest own idx y host ∈ NW ∧ Cond.instanceMethod y ∈ AW ∧ y.name = "<init>" ∧ (y.cls ≠ "java/lang/invoke/MethodHandle" ∧ y.cls ≠ "java/lang/invoke/VarHandle" ∧ (parseMethodDescriptor y.desc).map (fun d => d.parameters.length) = some 0)
theorem k_init (C : Od E X cc own nL t mcx msx) {idx q : Nat} {y : MethodName} {host : String} {cy : ByteArray} {nLy ty mcy msy : Nat} {Fy : Option (Sh × Hp)} {kk : Sh → Hp → Option (Sh × Hp)} (f : CN own idx y host cy nLy) (hM : ∀ sh2 h2, Fy = some (sh2, h2) → CtI E y cy nLy ty mcy msy [.ref (E.2.2.2 + q)] sh h sh2 h2) (ht : ty + 1 ≤ t) (hn : nLy ≤ 40) (hs8 : (st.map fun v => v.category).sum ≤ 8) (hc : ce + mcy ≤ mcx) (hs : sl + msy ≤ msx) (hd : decode cc pc = .ok (.invokespecial idx, 3))
    (k : ∀ sh2 h2, sh.isPrefixOf sh2 = true → GC E X (pc + 3) L st sh2 h2 (ce + mcy) (sl + msy) (kk sh2 h2)) : GC E X pc L (.ref (E.2.2.2 + q) :: st) sh h ce sl (bn2 Fy fun sh2 h2 => ck (sh.isPrefixOf sh2) (kk sh2 h2)) := by
  obtain ⟨p, e, R, s, m, args, below, meth, c, tsh, th, mc, ms⟩ := X
  intro sh' h' e1 e2 e3 ls H locs hl hP hz hS
  have hR : R = rmN t mcx msx := C.2.2.2.2.2.2.2.2.1
  cases hF : Fy with
  | none => rw [hF] at e1; cases e1
  | some x =>
    obtain ⟨s1, h1⟩ := x
    rw [hF] at e1
    have e1' : ck (sh.isPrefixOf s1) (kk s1 h1) = some (sh', h') := e1
    cases hpx : sh.isPrefixOf s1 with
    | false => rw [hpx] at e1'; cases e1'
    | true =>
      rw [hpx] at e1'
      have hrun : va_Run p E.1 e R s m args below meth c H locs ce sl mcy msy (F0 m pc ls (.ref (E.2.2.2 + q) :: st)) st (Qn E s1 h1 [.ref (E.2.2.2 + q)].toArray) (fun q => E.2.2.2 ≤ q) :=
        va_runIN (As := []) ⟨C.1, C.2.1, rfl, C.2.2.2.1, C.2.2.2.2.1⟩ (hM s1 h1 hF) ⟨va_cnB 0 C.2.2.2.2.1 (cf_good f.1) rfl rfl rfl (C.2.2.2.2.2.2.2.2.2.2.2.2.2.2 _ f.2.2.1) (C.2.2.2.2.1 _ f.2.1) f.2.2.2.2.2 (by rw [hR]; exact ⟨ht, by show 8 + (nLy + 11) + 64 * ty ≤ 64 * t; omega⟩), f.2.2.2.2.1, C.2.2.2.2.1 _ f.2.2.2.1⟩
          ⟨fun a U g mk z => ⟨z.1, z.2.1, z.2.2.1, va_K.moved (u := U) (U := U.calling g mk a) (Vm.Alike.refl U.vm) z.2.2.2.1, va_AO.moved (u := U) (U := U.calling g mk a) (Vm.Alike.refl U.vm) z.2.2.2.2.1, AOA.moved (u := U) (U := U.calling g mk a) (Vm.Alike.refl U.vm) z.2.2.2.2.2.1, NWs.same (u := U) (U := U.calling g mk a) rfl z.2.2.2.2.2.2⟩, fun U hU hW => ⟨rfl, by rw [hU]; exact hP, by rw [hU]; exact hz, va_K.moved hW.alike C.2.2.2.2.2.1, va_AO.moved hW.alike C.2.2.2.2.2.2.2.2.2.2.2.2.1, AOA.moved hW.alike C.2.2.2.2.2.2.2.2.2.2.2.2.2.1, NWs.warm hW C.2.2.2.2.2.2.2.2.2.2.2.2.2.2⟩⟩ rfl rfl hl.1 rfl (lv_room hs8) hd (by rw [hR]; exact ⟨hc, hs⟩)
      intro T hT Xs
      obtain ⟨v, st₀, t, T', Ll, h0, X', hL, f1, f2, ⟨⟨hv, hP1, hz1⟩, hzz, hk⟩, stp⟩ := hrun T hT Xs
      cases hv
      rw [h0] at hzz hk
      obtain ⟨t2, a1, b1⟩ := k s1 h1 hpx sh' h' e1' e2 e3 ls T'.heap (locs ++ Ll) hl (by rw [f1]; exact hP1) (by rw [f1]; exact hz1)
        ⟨Nat.le_trans hS.1 (by rw [f1]; exact hzz), fun q q1 q2 => by rw [f1, hk q (Nat.lt_of_lt_of_le q1 hS.1) q2]; exact hS.2.1 q q1 q2, fun q hq => by
          rcases List.mem_append.mp hq with z | z
          · exact hS.2.2 q z
          · exact hL q z⟩ T' rfl X'
      exact ⟨t2, stp t2 a1, b1⟩
end GCR
