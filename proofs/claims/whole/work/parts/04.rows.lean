section GR
variable {α : Type} {E : Ev} {sh : Sh} {X : Cx} {val : α → Option Value} {pc : Nat} {L L' : List (Option Value)} {st : List Value} {h : Hp} {o o1 o2 : Option (α × Hp)} {cc : ByteArray} {own : String} {nL t : Nat} {ret : Option FieldType}
theorem g_none : G E sh X val pc L st h none := by
  obtain ⟨p, e, R, s, m, args, below, meth, c, tv, th⟩ := X
  exact fun r h' e1 => by cases e1
theorem g_drop {i : Nat} (L' : List (Option Value)) (hL : L.set i none = L') (k : G E sh X val pc L' st h o) : G E sh X val pc L st h o := by
  obtain ⟨p, e, R, s, m, args, below, meth, c, tv, th⟩ := X
  exact fun r h' e1 e2 e3 ls H locs hl hP hS => k r h' e1 e2 e3 ls H locs (hl.drop hL) hP hS
theorem g_if {c : Prop} {inst : Decidable c} (kt : c → G E sh X val pc L st h o1) (kf : ¬ c → G E sh X val pc L st h o2) : G E sh X val pc L st h (@ite _ c inst o1 o2) := by
  by_cases hc : c
  · rw [if_pos hc]; exact kt hc
  · rw [if_neg hc]; exact kf hc
theorem g_nm {β : Type} {v : β} {kk : β → Option (α × Hp)} (k : G E sh X val pc L st h (kk v)) : G E sh X val pc L st h (nm v kk) := k
theorem g_topi {v : Int32} {kk : Int32 → Option (α × Hp)} (k : ∀ x : Int32, G E sh X val pc L (.int x :: st) h (kk x)) : G E sh X val pc L (.int v :: st) h (nm v kk) := k v
theorem g_topl {v : Int64} {kk : Int64 → Option (α × Hp)} (k : ∀ x : Int64, G E sh X val pc L (.long x :: st) h (kk x)) : G E sh X val pc L (.long v :: st) h (nm v kk) := k v
theorem g_ck {b : Bool} (k : b = true → G E sh X val pc L st h o) : G E sh X val pc L st h (ck b o) := by
  cases b with
  | true => exact k rfl
  | false => exact g_none
theorem g_mem {h2 : Hp} {kk : Hp → Option (α × Hp)} (k : ∀ h' : Hp, G E sh X val pc L st h' (kk h')) : G E sh X val pc L st h2 (nm h2 kk) := k h2
theorem g_iconst (C : Ok E X cc own nL ret t) {n : Int} {v : Int32} (hd : decode cc pc = .ok (.iconst n, 1)) (hv : Int32.ofInt n = v) (k : G E sh X val (pc + 1) L (.int v :: st) h o) : G E sh X val pc L (st) h o := by
  obtain ⟨p, e, R, s, m, args, below, meth, c, tv, th⟩ := X
  exact fun r h' e1 e2 e3 ls H locs hl hP hS => lv_iconst C.1 C.2.1 hd hv (k r h' e1 e2 e3 ls H locs hl hP hS)
theorem g_bipush (C : Ok E X cc own nL ret t) {n : Int} {v : Int32} (hd : decode cc pc = .ok (.bipush n, 2)) (hv : (Int8.ofInt n).toInt32 = v) (k : G E sh X val (pc + 2) L (.int v :: st) h o) : G E sh X val pc L (st) h o := by
  obtain ⟨p, e, R, s, m, args, below, meth, c, tv, th⟩ := X
  exact fun r h' e1 e2 e3 ls H locs hl hP hS => lv_bipush C.1 C.2.1 hd hv (k r h' e1 e2 e3 ls H locs hl hP hS)
theorem g_sipush (C : Ok E X cc own nL ret t) {n : Int} {v : Int32} (hd : decode cc pc = .ok (.sipush n, 3)) (hv : (Int16.ofInt n).toInt32 = v) (k : G E sh X val (pc + 3) L (.int v :: st) h o) : G E sh X val pc L (st) h o := by
  obtain ⟨p, e, R, s, m, args, below, meth, c, tv, th⟩ := X
  exact fun r h' e1 e2 e3 ls H locs hl hP hS => lv_sipush C.1 C.2.1 hd hv (k r h' e1 e2 e3 ls H locs hl hP hS)
theorem g_lconst (C : Ok E X cc own nL ret t) {n : Fin 2} {v : Int64} (hd : decode cc pc = .ok (.lconst n, 1)) (hv : Int64.ofNat (n : Nat) = v) (k : G E sh X val (pc + 1) L (.long v :: st) h o) : G E sh X val pc L (st) h o := by
  obtain ⟨p, e, R, s, m, args, below, meth, c, tv, th⟩ := X
  exact fun r h' e1 e2 e3 ls H locs hl hP hS => lv_lconst C.1 C.2.1 hd hv (k r h' e1 e2 e3 ls H locs hl hP hS)
theorem g_iload_n (C : Ok E X cc own nL ret t) {kf : Fin 4} {i : Nat} {x : Int32} (hd : decode cc pc = .ok (.iload_n kf, 1)) (hi : (kf : Nat) = i) (hg : L[i]? = some (some (.int x))) (k : G E sh X val (pc + 1) L (.int x :: st) h o) : G E sh X val pc L (st) h o := by
  obtain ⟨p, e, R, s, m, args, below, meth, c, tv, th⟩ := X
  exact fun r h' e1 e2 e3 ls H locs hl hP hS => lv_iload_n C.1 C.2.1 hd hi (hl.2.2 i _ hg) (k r h' e1 e2 e3 ls H locs hl hP hS)
theorem g_iload (C : Ok E X cc own nL ret t) {i : Nat} {x : Int32} (hd : decode cc pc = .ok (.iload i, 2)) (hg : L[i]? = some (some (.int x))) (k : G E sh X val (pc + 2) L (.int x :: st) h o) : G E sh X val pc L (st) h o := by
  obtain ⟨p, e, R, s, m, args, below, meth, c, tv, th⟩ := X
  exact fun r h' e1 e2 e3 ls H locs hl hP hS => lv_iload C.1 C.2.1 hd (hl.2.2 i _ hg) (k r h' e1 e2 e3 ls H locs hl hP hS)
theorem g_lload_n (C : Ok E X cc own nL ret t) {kf : Fin 4} {i : Nat} {x : Int64} (hd : decode cc pc = .ok (.lload_n kf, 1)) (hi : (kf : Nat) = i) (hg : L[i]? = some (some (.long x))) (k : G E sh X val (pc + 1) L (.long x :: st) h o) : G E sh X val pc L (st) h o := by
  obtain ⟨p, e, R, s, m, args, below, meth, c, tv, th⟩ := X
  exact fun r h' e1 e2 e3 ls H locs hl hP hS => lv_lload_n C.1 C.2.1 hd hi (hl.2.2 i _ hg) (k r h' e1 e2 e3 ls H locs hl hP hS)
theorem g_lload (C : Ok E X cc own nL ret t) {i : Nat} {x : Int64} (hd : decode cc pc = .ok (.lload i, 2)) (hg : L[i]? = some (some (.long x))) (k : G E sh X val (pc + 2) L (.long x :: st) h o) : G E sh X val pc L (st) h o := by
  obtain ⟨p, e, R, s, m, args, below, meth, c, tv, th⟩ := X
  exact fun r h' e1 e2 e3 ls H locs hl hP hS => lv_lload C.1 C.2.1 hd (hl.2.2 i _ hg) (k r h' e1 e2 e3 ls H locs hl hP hS)
theorem g_aload_n (C : Ok E X cc own nL ret t) {kf : Fin 4} {i : Nat} {x : Nat} (hd : decode cc pc = .ok (.aload_n kf, 1)) (hi : (kf : Nat) = i) (hg : L[i]? = some (some (.ref x))) (k : G E sh X val (pc + 1) L (.ref x :: st) h o) : G E sh X val pc L (st) h o := by
  obtain ⟨p, e, R, s, m, args, below, meth, c, tv, th⟩ := X
  exact fun r h' e1 e2 e3 ls H locs hl hP hS => lv_aload_n C.1 C.2.1 hd hi (hl.2.2 i _ hg) (k r h' e1 e2 e3 ls H locs hl hP hS)
theorem g_aload (C : Ok E X cc own nL ret t) {i : Nat} {x : Nat} (hd : decode cc pc = .ok (.aload i, 2)) (hg : L[i]? = some (some (.ref x))) (k : G E sh X val (pc + 2) L (.ref x :: st) h o) : G E sh X val pc L (st) h o := by
  obtain ⟨p, e, R, s, m, args, below, meth, c, tv, th⟩ := X
  exact fun r h' e1 e2 e3 ls H locs hl hP hS => lv_aload C.1 C.2.1 hd (hl.2.2 i _ hg) (k r h' e1 e2 e3 ls H locs hl hP hS)
theorem g_istore_n (C : Ok E X cc own nL ret t) {kf : Fin 4} {i : Nat} {x : Int32} (L' : List (Option Value)) (hd : decode cc pc = .ok (.istore_n kf, 1)) (hi : (kf : Nat) = i) (hn : i < nL) (hno : noL L i = true) (hL : L.set i (some (.int x)) = L') (k : G E sh X val (pc + 1) L' st h o) : G E sh X val pc L (.int x :: st) h o := by
  obtain ⟨p, e, R, s, m, args, below, meth, c, tv, th⟩ := X
  exact fun r h' e1 e2 e3 ls H locs hl hP hS => lv_istore_n C.1 C.2.1 hd hi hl.to (by rw [C.2.2.1]; exact hn) rfl (fun ls hl2 => k r h' e1 e2 e3 ls H locs (hasL.st1 hl2 hno hL) hP hS)
theorem g_istore (C : Ok E X cc own nL ret t) {i : Nat} {x : Int32} (L' : List (Option Value)) (hd : decode cc pc = .ok (.istore i, 2)) (hn : i < nL) (hno : noL L i = true) (hL : L.set i (some (.int x)) = L') (k : G E sh X val (pc + 2) L' st h o) : G E sh X val pc L (.int x :: st) h o := by
  obtain ⟨p, e, R, s, m, args, below, meth, c, tv, th⟩ := X
  exact fun r h' e1 e2 e3 ls H locs hl hP hS => lv_istore C.1 C.2.1 hd hl.to (by rw [C.2.2.1]; exact hn) rfl (fun ls hl2 => k r h' e1 e2 e3 ls H locs (hasL.st1 hl2 hno hL) hP hS)
theorem g_astore_n (C : Ok E X cc own nL ret t) {kf : Fin 4} {i : Nat} {x : Nat} (L' : List (Option Value)) (hd : decode cc pc = .ok (.astore_n kf, 1)) (hi : (kf : Nat) = i) (hn : i < nL) (hno : noL L i = true) (hL : L.set i (some (.ref x)) = L') (k : G E sh X val (pc + 1) L' st h o) : G E sh X val pc L (.ref x :: st) h o := by
  obtain ⟨p, e, R, s, m, args, below, meth, c, tv, th⟩ := X
  exact fun r h' e1 e2 e3 ls H locs hl hP hS => lv_astore_n C.1 C.2.1 hd hi hl.to (by rw [C.2.2.1]; exact hn) rfl (fun ls hl2 => k r h' e1 e2 e3 ls H locs (hasL.st1 hl2 hno hL) hP hS)
theorem g_astore (C : Ok E X cc own nL ret t) {i : Nat} {x : Nat} (L' : List (Option Value)) (hd : decode cc pc = .ok (.astore i, 2)) (hn : i < nL) (hno : noL L i = true) (hL : L.set i (some (.ref x)) = L') (k : G E sh X val (pc + 2) L' st h o) : G E sh X val pc L (.ref x :: st) h o := by
  obtain ⟨p, e, R, s, m, args, below, meth, c, tv, th⟩ := X
  exact fun r h' e1 e2 e3 ls H locs hl hP hS => lv_astore C.1 C.2.1 hd hl.to (by rw [C.2.2.1]; exact hn) rfl (fun ls hl2 => k r h' e1 e2 e3 ls H locs (hasL.st1 hl2 hno hL) hP hS)
theorem g_lstore_n (C : Ok E X cc own nL ret t) {kf : Fin 4} {i : Nat} {x : Int64} (L' : List (Option Value)) (hd : decode cc pc = .ok (.lstore_n kf, 1)) (hi : (kf : Nat) = i) (hn : i + 1 < nL) (hno : noL L i = true) (hL : (L.set i (some (.long x))).set (i + 1) none = L') (k : G E sh X val (pc + 1) L' st h o) : G E sh X val pc L (.long x :: st) h o := by
  obtain ⟨p, e, R, s, m, args, below, meth, c, tv, th⟩ := X
  exact fun r h' e1 e2 e3 ls H locs hl hP hS => lv_lstore_n C.1 C.2.1 hd hi hl.to (by rw [C.2.2.1]; exact hn) rfl (fun ls hl2 => k r h' e1 e2 e3 ls H locs (hasL.st2 hl2 hno hL) hP hS)
theorem g_lstore (C : Ok E X cc own nL ret t) {i : Nat} {x : Int64} (L' : List (Option Value)) (hd : decode cc pc = .ok (.lstore i, 2)) (hn : i + 1 < nL) (hno : noL L i = true) (hL : (L.set i (some (.long x))).set (i + 1) none = L') (k : G E sh X val (pc + 2) L' st h o) : G E sh X val pc L (.long x :: st) h o := by
  obtain ⟨p, e, R, s, m, args, below, meth, c, tv, th⟩ := X
  exact fun r h' e1 e2 e3 ls H locs hl hP hS => lv_lstore C.1 C.2.1 hd hl.to (by rw [C.2.2.1]; exact hn) rfl (fun ls hl2 => k r h' e1 e2 e3 ls H locs (hasL.st2 hl2 hno hL) hP hS)
theorem g_iinc (C : Ok E X cc own nL ret t) {i : Nat} {n : Int} {x w v : Int32} {kk : Int32 → Option (α × Hp)} (L' : Int32 → List (Option Value)) (hd : decode cc pc = .ok (.iinc i n, 3)) (hg : L[i]? = some (some (.int x))) (hw : Int32.ofInt n = w) (hv : x + w = v) (hn : i < nL) (hno : noL L i = true) (hL : ∀ y, L.set i (some (.int y)) = L' y) (k : ∀ y : Int32, G E sh X val (pc + 3) (L' y) st h (kk y)) : G E sh X val pc L st h (nm v kk) := by
  obtain ⟨p, e, R, s, m, args, below, meth, c, tv, th⟩ := X
  subst hw
  subst hv
  intro r h' e1 e2 e3 ls H locs hl hP hS
  obtain ⟨j, hj⟩ := List.getElem?_of_mem (lz_mem.mpr hg)
  exact lv_iinc C.1 C.2.1 hd hl.to hj rfl (by rw [C.2.2.1]; exact hn) rfl (fun ls hl2 => k _ r h' e1 e2 e3 ls H locs (hasL.st1 hl2 hno (hL _)) hP hS)
theorem g_iadd (C : Ok E X cc own nL ret t) {x y : Int32} (hd : decode cc pc = .ok (.iadd, 1)) (k : G E sh X val (pc + 1) L (.int (x + y) :: st) h o) : G E sh X val pc L (.int y :: .int x :: st) h o := by
  obtain ⟨p, e, R, s, m, args, below, meth, c, tv, th⟩ := X
  exact fun r h' e1 e2 e3 ls H locs hl hP hS => lv_iadd C.1 C.2.1 hd (k r h' e1 e2 e3 ls H locs hl hP hS)
theorem g_isub (C : Ok E X cc own nL ret t) {x y : Int32} (hd : decode cc pc = .ok (.isub, 1)) (k : G E sh X val (pc + 1) L (.int (x - y) :: st) h o) : G E sh X val pc L (.int y :: .int x :: st) h o := by
  obtain ⟨p, e, R, s, m, args, below, meth, c, tv, th⟩ := X
  exact fun r h' e1 e2 e3 ls H locs hl hP hS => lv_isub C.1 C.2.1 hd (k r h' e1 e2 e3 ls H locs hl hP hS)
theorem g_imul (C : Ok E X cc own nL ret t) {x y : Int32} (hd : decode cc pc = .ok (.imul, 1)) (k : G E sh X val (pc + 1) L (.int (x * y) :: st) h o) : G E sh X val pc L (.int y :: .int x :: st) h o := by
  obtain ⟨p, e, R, s, m, args, below, meth, c, tv, th⟩ := X
  exact fun r h' e1 e2 e3 ls H locs hl hP hS => lv_imul C.1 C.2.1 hd (k r h' e1 e2 e3 ls H locs hl hP hS)
theorem g_iand (C : Ok E X cc own nL ret t) {x y : Int32} (hd : decode cc pc = .ok (.iand, 1)) (k : G E sh X val (pc + 1) L (.int (x &&& y) :: st) h o) : G E sh X val pc L (.int y :: .int x :: st) h o := by
  obtain ⟨p, e, R, s, m, args, below, meth, c, tv, th⟩ := X
  exact fun r h' e1 e2 e3 ls H locs hl hP hS => lv_iand C.1 C.2.1 hd (k r h' e1 e2 e3 ls H locs hl hP hS)
theorem g_ior (C : Ok E X cc own nL ret t) {x y : Int32} (hd : decode cc pc = .ok (.ior, 1)) (k : G E sh X val (pc + 1) L (.int (x ||| y) :: st) h o) : G E sh X val pc L (.int y :: .int x :: st) h o := by
  obtain ⟨p, e, R, s, m, args, below, meth, c, tv, th⟩ := X
  exact fun r h' e1 e2 e3 ls H locs hl hP hS => lv_ior C.1 C.2.1 hd (k r h' e1 e2 e3 ls H locs hl hP hS)
theorem g_ixor (C : Ok E X cc own nL ret t) {x y : Int32} (hd : decode cc pc = .ok (.ixor, 1)) (k : G E sh X val (pc + 1) L (.int (x ^^^ y) :: st) h o) : G E sh X val pc L (.int y :: .int x :: st) h o := by
  obtain ⟨p, e, R, s, m, args, below, meth, c, tv, th⟩ := X
  exact fun r h' e1 e2 e3 ls H locs hl hP hS => lv_ixor C.1 C.2.1 hd (k r h' e1 e2 e3 ls H locs hl hP hS)
theorem g_ladd (C : Ok E X cc own nL ret t) {x y : Int64} (hd : decode cc pc = .ok (.ladd, 1)) (k : G E sh X val (pc + 1) L (.long (x + y) :: st) h o) : G E sh X val pc L (.long y :: .long x :: st) h o := by
  obtain ⟨p, e, R, s, m, args, below, meth, c, tv, th⟩ := X
  exact fun r h' e1 e2 e3 ls H locs hl hP hS => lv_ladd C.1 C.2.1 hd (k r h' e1 e2 e3 ls H locs hl hP hS)
theorem g_lsub (C : Ok E X cc own nL ret t) {x y : Int64} (hd : decode cc pc = .ok (.lsub, 1)) (k : G E sh X val (pc + 1) L (.long (x - y) :: st) h o) : G E sh X val pc L (.long y :: .long x :: st) h o := by
  obtain ⟨p, e, R, s, m, args, below, meth, c, tv, th⟩ := X
  exact fun r h' e1 e2 e3 ls H locs hl hP hS => lv_lsub C.1 C.2.1 hd (k r h' e1 e2 e3 ls H locs hl hP hS)
theorem g_lmul (C : Ok E X cc own nL ret t) {x y : Int64} (hd : decode cc pc = .ok (.lmul, 1)) (k : G E sh X val (pc + 1) L (.long (x * y) :: st) h o) : G E sh X val pc L (.long y :: .long x :: st) h o := by
  obtain ⟨p, e, R, s, m, args, below, meth, c, tv, th⟩ := X
  exact fun r h' e1 e2 e3 ls H locs hl hP hS => lv_lmul C.1 C.2.1 hd (k r h' e1 e2 e3 ls H locs hl hP hS)
theorem g_ineg (C : Ok E X cc own nL ret t) {x : Int32} (hd : decode cc pc = .ok (.ineg, 1)) (k : G E sh X val (pc + 1) L (.int (-x) :: st) h o) : G E sh X val pc L (.int x :: st) h o := by
  obtain ⟨p, e, R, s, m, args, below, meth, c, tv, th⟩ := X
  exact fun r h' e1 e2 e3 ls H locs hl hP hS => lv_ineg C.1 C.2.1 hd (k r h' e1 e2 e3 ls H locs hl hP hS)
theorem g_idiv (C : Ok E X cc own nL ret t) {x y : Int32} (hd : decode cc pc = .ok (.idiv, 1)) (hne : ¬ y = 0) (k : G E sh X val (pc + 1) L (.int (x / y) :: st) h o) : G E sh X val pc L (.int y :: .int x :: st) h o := by
  obtain ⟨p, e, R, s, m, args, below, meth, c, tv, th⟩ := X
  exact fun r h' e1 e2 e3 ls H locs hl hP hS => lv_idiv C.1 C.2.1 hd hne (k r h' e1 e2 e3 ls H locs hl hP hS)
theorem g_irem (C : Ok E X cc own nL ret t) {x y : Int32} (hd : decode cc pc = .ok (.irem, 1)) (hne : ¬ y = 0) (k : G E sh X val (pc + 1) L (.int (x - x / y * y) :: st) h o) : G E sh X val pc L (.int y :: .int x :: st) h o := by
  obtain ⟨p, e, R, s, m, args, below, meth, c, tv, th⟩ := X
  exact fun r h' e1 e2 e3 ls H locs hl hP hS => lv_irem C.1 C.2.1 hd hne (k r h' e1 e2 e3 ls H locs hl hP hS)
theorem g_ldiv (C : Ok E X cc own nL ret t) {x y : Int64} (hd : decode cc pc = .ok (.ldiv, 1)) (hne : ¬ y = 0) (k : G E sh X val (pc + 1) L (.long (x / y) :: st) h o) : G E sh X val pc L (.long y :: .long x :: st) h o := by
  obtain ⟨p, e, R, s, m, args, below, meth, c, tv, th⟩ := X
  exact fun r h' e1 e2 e3 ls H locs hl hP hS => lv_ldiv C.1 C.2.1 hd hne (k r h' e1 e2 e3 ls H locs hl hP hS)
theorem g_lrem (C : Ok E X cc own nL ret t) {x y : Int64} (hd : decode cc pc = .ok (.lrem, 1)) (hne : ¬ y = 0) (k : G E sh X val (pc + 1) L (.long (x - x / y * y) :: st) h o) : G E sh X val pc L (.long y :: .long x :: st) h o := by
  obtain ⟨p, e, R, s, m, args, below, meth, c, tv, th⟩ := X
  exact fun r h' e1 e2 e3 ls H locs hl hP hS => lv_lrem C.1 C.2.1 hd hne (k r h' e1 e2 e3 ls H locs hl hP hS)
theorem g_ishl (C : Ok E X cc own nL ret t) {x y : Int32} (hd : decode cc pc = .ok (.ishl, 1)) (k : G E sh X val (pc + 1) L (.int (x <<< (y &&& 31)) :: st) h o) : G E sh X val pc L (.int y :: .int x :: st) h o := by
  obtain ⟨p, e, R, s, m, args, below, meth, c, tv, th⟩ := X
  exact fun r h' e1 e2 e3 ls H locs hl hP hS => lv_ishl C.1 C.2.1 hd (k r h' e1 e2 e3 ls H locs hl hP hS)
theorem g_ishr (C : Ok E X cc own nL ret t) {x y : Int32} (hd : decode cc pc = .ok (.ishr, 1)) (k : G E sh X val (pc + 1) L (.int (x >>> (y &&& 31)) :: st) h o) : G E sh X val pc L (.int y :: .int x :: st) h o := by
  obtain ⟨p, e, R, s, m, args, below, meth, c, tv, th⟩ := X
  exact fun r h' e1 e2 e3 ls H locs hl hP hS => lv_ishr C.1 C.2.1 hd (k r h' e1 e2 e3 ls H locs hl hP hS)
theorem g_iushr (C : Ok E X cc own nL ret t) {x y : Int32} (hd : decode cc pc = .ok (.iushr, 1)) (k : G E sh X val (pc + 1) L (.int (x.toUInt32 >>> (y.toUInt32 &&& Int32.toUInt32 31)).toInt32 :: st) h o) : G E sh X val pc L (.int y :: .int x :: st) h o := by
  obtain ⟨p, e, R, s, m, args, below, meth, c, tv, th⟩ := X
  exact fun r h' e1 e2 e3 ls H locs hl hP hS => lv_iushr C.1 C.2.1 hd rfl (k r h' e1 e2 e3 ls H locs hl hP hS)
theorem g_lshl (C : Ok E X cc own nL ret t) {x : Int64} {y : Int32} (hd : decode cc pc = .ok (.lshl, 1)) (k : G E sh X val (pc + 1) L (.long (x <<< (y.toInt64 &&& 63)) :: st) h o) : G E sh X val pc L (.int y :: .long x :: st) h o := by
  obtain ⟨p, e, R, s, m, args, below, meth, c, tv, th⟩ := X
  exact fun r h' e1 e2 e3 ls H locs hl hP hS => lv_lshl C.1 C.2.1 hd rfl (k r h' e1 e2 e3 ls H locs hl hP hS)
theorem g_i2l (C : Ok E X cc own nL ret t) {x : Int32} (hd : decode cc pc = .ok (.i2l, 1)) (k : G E sh X val (pc + 1) L (.long x.toInt64 :: st) h o) : G E sh X val pc L (.int x :: st) h o := by
  obtain ⟨p, e, R, s, m, args, below, meth, c, tv, th⟩ := X
  exact fun r h' e1 e2 e3 ls H locs hl hP hS => lv_i2l C.1 C.2.1 hd rfl (k r h' e1 e2 e3 ls H locs hl hP hS)
theorem g_i2b (C : Ok E X cc own nL ret t) {x : Int32} (hd : decode cc pc = .ok (.i2b, 1)) (k : G E sh X val (pc + 1) L (.int x.toInt8.toInt32 :: st) h o) : G E sh X val pc L (.int x :: st) h o := by
  obtain ⟨p, e, R, s, m, args, below, meth, c, tv, th⟩ := X
  exact fun r h' e1 e2 e3 ls H locs hl hP hS => lv_i2b C.1 C.2.1 hd rfl (k r h' e1 e2 e3 ls H locs hl hP hS)
theorem g_i2s (C : Ok E X cc own nL ret t) {x : Int32} (hd : decode cc pc = .ok (.i2s, 1)) (k : G E sh X val (pc + 1) L (.int x.toInt16.toInt32 :: st) h o) : G E sh X val pc L (.int x :: st) h o := by
  obtain ⟨p, e, R, s, m, args, below, meth, c, tv, th⟩ := X
  exact fun r h' e1 e2 e3 ls H locs hl hP hS => lv_i2s C.1 C.2.1 hd rfl (k r h' e1 e2 e3 ls H locs hl hP hS)
theorem g_lcmp (C : Ok E X cc own nL ret t) {x y : Int64} (hd : decode cc pc = .ok (.lcmp, 1)) (k : G E sh X val (pc + 1) L (.int (lg_cmp x y) :: st) h o) : G E sh X val pc L (.long y :: .long x :: st) h o := by
  obtain ⟨p, e, R, s, m, args, below, meth, c, tv, th⟩ := X
  exact fun r h' e1 e2 e3 ls H locs hl hP hS => W.lcmp C.1 C.2.1 hd (k r h' e1 e2 e3 ls H locs hl hP hS)
theorem g_dup (C : Ok E X cc own nL ret t) {v : Value} (hd : decode cc pc = .ok (.dup, 1)) (hv : v.category = 1) (k : G E sh X val (pc + 1) L (v :: v :: st) h o) : G E sh X val pc L (v :: st) h o := by
  obtain ⟨p, e, R, s, m, args, below, meth, c, tv, th⟩ := X
  exact fun r h' e1 e2 e3 ls H locs hl hP hS => lv_dup C.1 C.2.1 hd hv (k r h' e1 e2 e3 ls H locs hl hP hS)
theorem g_dup2 (C : Ok E X cc own nL ret t) {v w : Value} (hd : decode cc pc = .ok (.dup2, 1)) (hv : v.category = 1) (hw : w.category = 1) (k : G E sh X val (pc + 1) L (v :: w :: v :: w :: st) h o) : G E sh X val pc L (v :: w :: st) h o := by
  obtain ⟨p, e, R, s, m, args, below, meth, c, tv, th⟩ := X
  exact fun r h' e1 e2 e3 ls H locs hl hP hS => lv_dup2_11 C.1 C.2.1 hd hv hw (k r h' e1 e2 e3 ls H locs hl hP hS)
theorem g_ldc2 (C : Ok E X cc own nL ret t) {idx : Nat} {v : Int64} (hd : decode cc pc = .ok (.ldc2_w idx, 3)) (hm : Cond.constantLong own idx v ∈ AW) (k : G E sh X val (pc + 3) L (.long v :: st) h o) : G E sh X val pc L (st) h o := by
  obtain ⟨p, e, R, s, m, args, below, meth, c, tv, th⟩ := X
  exact fun r h' e1 e2 e3 ls H locs hl hP hS => lv_ldc2 C.1 C.2.1 C.2.2.2.1 (C.2.2.2.2.1 _ hm) hd (k r h' e1 e2 e3 ls H locs hl hP hS)
theorem g_ldcw (C : Ok E X cc own nL ret t) {idx : Nat} {v : Int32} (hd : decode cc pc = .ok (.ldc_w idx, 3)) (hm : Cond.constant own idx v ∈ AW) (k : G E sh X val (pc + 3) L (.int v :: st) h o) : G E sh X val pc L (st) h o := by
  obtain ⟨p, e, R, s, m, args, below, meth, c, tv, th⟩ := X
  exact fun r h' e1 e2 e3 ls H locs hl hP hS => lv_ldcw C.1 C.2.1 C.2.2.2.1 (C.2.2.2.2.1 _ hm) hd (k r h' e1 e2 e3 ls H locs hl hP hS)
theorem g_icmp_eq (C : Ok E X cc own nL ret t) {x y : Int32} {off : Int} (tgt : Nat) {inst : Decidable (x = y)} (hd : decode cc pc = .ok (.if_icmp .eq off, 3)) (ht : (pc : Int) + off = (tgt : Int)) (kt : x = y → G E sh X val tgt L st h o1) (kf : ¬ x = y → G E sh X val (pc + 3) L st h o2) : G E sh X val pc L (.int y :: .int x :: st) h (@ite _ (x = y) inst o1 o2) := by
  obtain ⟨p, e, R, s, m, args, below, meth, c, tv, th⟩ := X
  exact fun r h' e1 e2 e3 ls H locs hl hP hS => lv_icmp_eq C.1 C.2.1 hd ht (fun q => kt q r h' (by rw [if_pos q] at e1; exact e1) e2 e3 ls H locs hl hP hS) (fun q => kf q r h' (by rw [if_neg q] at e1; exact e1) e2 e3 ls H locs hl hP hS)
theorem g_if_eq (C : Ok E X cc own nL ret t) {x : Int32} {off : Int} (tgt : Nat) {inst : Decidable (x = (0 : Int32))} (hd : decode cc pc = .ok (.ifCond .eq off, 3)) (ht : (pc : Int) + off = (tgt : Int)) (kt : x = (0 : Int32) → G E sh X val tgt L st h o1) (kf : ¬ x = (0 : Int32) → G E sh X val (pc + 3) L st h o2) : G E sh X val pc L (.int x :: st) h (@ite _ (x = (0 : Int32)) inst o1 o2) := by
  obtain ⟨p, e, R, s, m, args, below, meth, c, tv, th⟩ := X
  exact fun r h' e1 e2 e3 ls H locs hl hP hS => lv_if_eq C.1 C.2.1 hd ht (fun q => kt q r h' (by rw [if_pos q] at e1; exact e1) e2 e3 ls H locs hl hP hS) (fun q => kf q r h' (by rw [if_neg q] at e1; exact e1) e2 e3 ls H locs hl hP hS)
theorem g_icmp_ne (C : Ok E X cc own nL ret t) {x y : Int32} {off : Int} (tgt : Nat) {inst : Decidable (x = y)} (hd : decode cc pc = .ok (.if_icmp .ne off, 3)) (ht : (pc : Int) + off = (tgt : Int)) (kt : x = y → G E sh X val (pc + 3) L st h o1) (kf : ¬ x = y → G E sh X val tgt L st h o2) : G E sh X val pc L (.int y :: .int x :: st) h (@ite _ (x = y) inst o1 o2) := by
  obtain ⟨p, e, R, s, m, args, below, meth, c, tv, th⟩ := X
  exact fun r h' e1 e2 e3 ls H locs hl hP hS => lv_icmp_ne C.1 C.2.1 hd ht (fun q => kf q r h' (by rw [if_neg q] at e1; exact e1) e2 e3 ls H locs hl hP hS) (fun q => kt q r h' (by rw [if_pos q] at e1; exact e1) e2 e3 ls H locs hl hP hS)
theorem g_if_ne (C : Ok E X cc own nL ret t) {x : Int32} {off : Int} (tgt : Nat) {inst : Decidable (x = (0 : Int32))} (hd : decode cc pc = .ok (.ifCond .ne off, 3)) (ht : (pc : Int) + off = (tgt : Int)) (kt : x = (0 : Int32) → G E sh X val (pc + 3) L st h o1) (kf : ¬ x = (0 : Int32) → G E sh X val tgt L st h o2) : G E sh X val pc L (.int x :: st) h (@ite _ (x = (0 : Int32)) inst o1 o2) := by
  obtain ⟨p, e, R, s, m, args, below, meth, c, tv, th⟩ := X
  exact fun r h' e1 e2 e3 ls H locs hl hP hS => lv_if_ne C.1 C.2.1 hd ht (fun q => kf q r h' (by rw [if_neg q] at e1; exact e1) e2 e3 ls H locs hl hP hS) (fun q => kt q r h' (by rw [if_pos q] at e1; exact e1) e2 e3 ls H locs hl hP hS)
theorem g_icmp_lt (C : Ok E X cc own nL ret t) {x y : Int32} {off : Int} (tgt : Nat) {inst : Decidable (x < y)} (hd : decode cc pc = .ok (.if_icmp .lt off, 3)) (ht : (pc : Int) + off = (tgt : Int)) (kt : x < y → G E sh X val tgt L st h o1) (kf : ¬ x < y → G E sh X val (pc + 3) L st h o2) : G E sh X val pc L (.int y :: .int x :: st) h (@ite _ (x < y) inst o1 o2) := by
  obtain ⟨p, e, R, s, m, args, below, meth, c, tv, th⟩ := X
  exact fun r h' e1 e2 e3 ls H locs hl hP hS => lv_icmp_lt C.1 C.2.1 hd ht (fun q => kt q r h' (by rw [if_pos q] at e1; exact e1) e2 e3 ls H locs hl hP hS) (fun q => kf q r h' (by rw [if_neg q] at e1; exact e1) e2 e3 ls H locs hl hP hS)
theorem g_if_lt (C : Ok E X cc own nL ret t) {x : Int32} {off : Int} (tgt : Nat) {inst : Decidable (x < (0 : Int32))} (hd : decode cc pc = .ok (.ifCond .lt off, 3)) (ht : (pc : Int) + off = (tgt : Int)) (kt : x < (0 : Int32) → G E sh X val tgt L st h o1) (kf : ¬ x < (0 : Int32) → G E sh X val (pc + 3) L st h o2) : G E sh X val pc L (.int x :: st) h (@ite _ (x < (0 : Int32)) inst o1 o2) := by
  obtain ⟨p, e, R, s, m, args, below, meth, c, tv, th⟩ := X
  exact fun r h' e1 e2 e3 ls H locs hl hP hS => lv_if_lt C.1 C.2.1 hd ht (fun q => kt q r h' (by rw [if_pos q] at e1; exact e1) e2 e3 ls H locs hl hP hS) (fun q => kf q r h' (by rw [if_neg q] at e1; exact e1) e2 e3 ls H locs hl hP hS)
theorem g_icmp_ge (C : Ok E X cc own nL ret t) {x y : Int32} {off : Int} (tgt : Nat) {inst : Decidable (y ≤ x)} (hd : decode cc pc = .ok (.if_icmp .ge off, 3)) (ht : (pc : Int) + off = (tgt : Int)) (kt : y ≤ x → G E sh X val tgt L st h o1) (kf : ¬ y ≤ x → G E sh X val (pc + 3) L st h o2) : G E sh X val pc L (.int y :: .int x :: st) h (@ite _ (y ≤ x) inst o1 o2) := by
  obtain ⟨p, e, R, s, m, args, below, meth, c, tv, th⟩ := X
  exact fun r h' e1 e2 e3 ls H locs hl hP hS => lv_icmp_ge C.1 C.2.1 hd ht (fun q => kt q r h' (by rw [if_pos q] at e1; exact e1) e2 e3 ls H locs hl hP hS) (fun q => kf q r h' (by rw [if_neg q] at e1; exact e1) e2 e3 ls H locs hl hP hS)
theorem g_if_ge (C : Ok E X cc own nL ret t) {x : Int32} {off : Int} (tgt : Nat) {inst : Decidable ((0 : Int32) ≤ x)} (hd : decode cc pc = .ok (.ifCond .ge off, 3)) (ht : (pc : Int) + off = (tgt : Int)) (kt : (0 : Int32) ≤ x → G E sh X val tgt L st h o1) (kf : ¬ (0 : Int32) ≤ x → G E sh X val (pc + 3) L st h o2) : G E sh X val pc L (.int x :: st) h (@ite _ ((0 : Int32) ≤ x) inst o1 o2) := by
  obtain ⟨p, e, R, s, m, args, below, meth, c, tv, th⟩ := X
  exact fun r h' e1 e2 e3 ls H locs hl hP hS => lv_if_ge C.1 C.2.1 hd ht (fun q => kt q r h' (by rw [if_pos q] at e1; exact e1) e2 e3 ls H locs hl hP hS) (fun q => kf q r h' (by rw [if_neg q] at e1; exact e1) e2 e3 ls H locs hl hP hS)
theorem g_icmp_gt (C : Ok E X cc own nL ret t) {x y : Int32} {off : Int} (tgt : Nat) {inst : Decidable (y < x)} (hd : decode cc pc = .ok (.if_icmp .gt off, 3)) (ht : (pc : Int) + off = (tgt : Int)) (kt : y < x → G E sh X val tgt L st h o1) (kf : ¬ y < x → G E sh X val (pc + 3) L st h o2) : G E sh X val pc L (.int y :: .int x :: st) h (@ite _ (y < x) inst o1 o2) := by
  obtain ⟨p, e, R, s, m, args, below, meth, c, tv, th⟩ := X
  exact fun r h' e1 e2 e3 ls H locs hl hP hS => lv_icmp_gt C.1 C.2.1 hd ht (fun q => kt q r h' (by rw [if_pos q] at e1; exact e1) e2 e3 ls H locs hl hP hS) (fun q => kf q r h' (by rw [if_neg q] at e1; exact e1) e2 e3 ls H locs hl hP hS)
theorem g_if_gt (C : Ok E X cc own nL ret t) {x : Int32} {off : Int} (tgt : Nat) {inst : Decidable ((0 : Int32) < x)} (hd : decode cc pc = .ok (.ifCond .gt off, 3)) (ht : (pc : Int) + off = (tgt : Int)) (kt : (0 : Int32) < x → G E sh X val tgt L st h o1) (kf : ¬ (0 : Int32) < x → G E sh X val (pc + 3) L st h o2) : G E sh X val pc L (.int x :: st) h (@ite _ ((0 : Int32) < x) inst o1 o2) := by
  obtain ⟨p, e, R, s, m, args, below, meth, c, tv, th⟩ := X
  exact fun r h' e1 e2 e3 ls H locs hl hP hS => lv_if_gt C.1 C.2.1 hd ht (fun q => kt q r h' (by rw [if_pos q] at e1; exact e1) e2 e3 ls H locs hl hP hS) (fun q => kf q r h' (by rw [if_neg q] at e1; exact e1) e2 e3 ls H locs hl hP hS)
theorem g_icmp_le (C : Ok E X cc own nL ret t) {x y : Int32} {off : Int} (tgt : Nat) {inst : Decidable (x ≤ y)} (hd : decode cc pc = .ok (.if_icmp .le off, 3)) (ht : (pc : Int) + off = (tgt : Int)) (kt : x ≤ y → G E sh X val tgt L st h o1) (kf : ¬ x ≤ y → G E sh X val (pc + 3) L st h o2) : G E sh X val pc L (.int y :: .int x :: st) h (@ite _ (x ≤ y) inst o1 o2) := by
  obtain ⟨p, e, R, s, m, args, below, meth, c, tv, th⟩ := X
  exact fun r h' e1 e2 e3 ls H locs hl hP hS => lv_icmp_le C.1 C.2.1 hd ht (fun q => kt q r h' (by rw [if_pos q] at e1; exact e1) e2 e3 ls H locs hl hP hS) (fun q => kf q r h' (by rw [if_neg q] at e1; exact e1) e2 e3 ls H locs hl hP hS)
theorem g_if_le (C : Ok E X cc own nL ret t) {x : Int32} {off : Int} (tgt : Nat) {inst : Decidable (x ≤ (0 : Int32))} (hd : decode cc pc = .ok (.ifCond .le off, 3)) (ht : (pc : Int) + off = (tgt : Int)) (kt : x ≤ (0 : Int32) → G E sh X val tgt L st h o1) (kf : ¬ x ≤ (0 : Int32) → G E sh X val (pc + 3) L st h o2) : G E sh X val pc L (.int x :: st) h (@ite _ (x ≤ (0 : Int32)) inst o1 o2) := by
  obtain ⟨p, e, R, s, m, args, below, meth, c, tv, th⟩ := X
  exact fun r h' e1 e2 e3 ls H locs hl hP hS => lv_if_le C.1 C.2.1 hd ht (fun q => kt q r h' (by rw [if_pos q] at e1; exact e1) e2 e3 ls H locs hl hP hS) (fun q => kf q r h' (by rw [if_neg q] at e1; exact e1) e2 e3 ls H locs hl hP hS)
theorem g_goto (C : Ok E X cc own nL ret t) {off : Int} (tgt : Nat) (hd : decode cc pc = .ok (.goto off, 3)) (ht : (pc : Int) + off = (tgt : Int)) (k : G E sh X val tgt L st h o) : G E sh X val pc L st h o := by
  obtain ⟨p, e, R, s, m, args, below, meth, c, tv, th⟩ := X
  exact fun r h' e1 e2 e3 ls H locs hl hP hS => lv_goto C.1 C.2.1 hd ht (k r h' e1 e2 e3 ls H locs hl hP hS)
theorem g_tsIn (C : Ok E X cc own nL ret t) {dflt lo hi : Int} {offs : Array Int} {len : Nat} {x : Int32} {off : Int} (tgt : Nat) (hd : decode cc pc = .ok (.tableswitch dflt lo hi offs, len)) (h1 : ¬ x.toInt < lo) (h2 : ¬ hi < x.toInt) (ho : offs[(x.toInt - lo).toNat]? = some off) (ht : (pc : Int) + off = (tgt : Int)) (k : G E sh X val tgt L st h o) : G E sh X val pc L (.int x :: st) h o := by
  obtain ⟨p, e, R, s, m, args, below, meth, c, tv, th⟩ := X
  exact fun r h' e1 e2 e3 ls H locs hl hP hS => lv_tableIn C.1 C.2.1 hd h1 h2 ho ht (k r h' e1 e2 e3 ls H locs hl hP hS)
theorem g_tsOut (C : Ok E X cc own nL ret t) {dflt lo hi : Int} {offs : Array Int} {len : Nat} {x : Int32} (tgt : Nat) (hd : decode cc pc = .ok (.tableswitch dflt lo hi offs, len)) (hx : x.toInt < lo ∨ hi < x.toInt) (ht : (pc : Int) + dflt = (tgt : Int)) (k : G E sh X val tgt L st h o) : G E sh X val pc L (.int x :: st) h o := by
  obtain ⟨p, e, R, s, m, args, below, meth, c, tv, th⟩ := X
  exact fun r h' e1 e2 e3 ls H locs hl hP hS => lv_tableOut C.1 C.2.1 hd hx ht (k r h' e1 e2 e3 ls H locs hl hP hS)
theorem g_lookup (C : Ok E X cc own nL ret t) {dflt : Int} {ps : Array (Int × Int)} {len : Nat} {x : Int32} {off : Int} (tgt : Nat) (hd : decode cc pc = .ok (.lookupswitch dflt ps, len)) (hp : (ps.toList.zip (ps.toList.drop 1)).all (fun (a, next) => a.1 < next.1) = true) (ho : Op.lookupswitch.offset ps.toList dflt x.toInt = off) (ht : (pc : Int) + off = (tgt : Int)) (k : G E sh X val tgt L st h o) : G E sh X val pc L (.int x :: st) h o := by
  obtain ⟨p, e, R, s, m, args, below, meth, c, tv, th⟩ := X
  exact fun r h' e1 e2 e3 ls H locs hl hP hS => lv_lookup C.1 C.2.1 hd hp ho ht (k r h' e1 e2 e3 ls H locs hl hP hS)
theorem ts_out {x : Int32} (n : Nat) {hi : Int} (hn : n < 2 ^ 31) (hh : hi = (n : Int) - 1) (hx : ∀ j : Nat, j < n → ¬ x = nI j) : x.toInt < 0 ∨ hi < x.toInt := by
  by_cases h0 : x.toInt < 0
  · exact Or.inl h0
  · right
    by_cases q : hi < x.toInt
    · exact q
    · exfalso
      have h1 : vp_in x n := vp_in_iff.mpr ⟨by omega, by omega⟩
      obtain ⟨j, hj, e⟩ := vp_in_of h1 hn
      exact hx j hj e
theorem g_ireti (C : Ok E X cc own nL (some .int) t) {v : Int32} (hd : decode cc pc = .ok (.ireturn, 1)) : G E sh X vi pc L [.int v] h (some (v, h)) := by
  obtain ⟨p, e, R, s, m, args, below, meth, c, tv, th⟩ := X
  intro r h' e1 e2 e3 ls H locs hl hP hS
  cases e1
  subst e2
  subst e3
  exact W.iret C.1 C.2.1 C.2.2.2.2.2.2.1 (fun t ht hW => ⟨⟨rfl, by rw [ht]; exact hP⟩, hS.F ht⟩) hS.2.2 hd (hlocks := C.2.2.2.2.2.2.2.1)
theorem g_iretz (C : Ok E X cc own nL (some .boolean) t) {v : Int32} (hv : narrow .boolean (.int v) = .int v) (hd : decode cc pc = .ok (.ireturn, 1)) : G E sh X vi pc L [.int v] h (some (v, h)) := by
  obtain ⟨p, e, R, s, m, args, below, meth, c, tv, th⟩ := X
  intro r h' e1 e2 e3 ls H locs hl hP hS
  cases e1
  subst e2
  subst e3
  exact W.zret C.1 C.2.1 C.2.2.2.2.2.2.1 hv (fun t ht hW => ⟨⟨rfl, by rw [ht]; exact hP⟩, hS.F ht⟩) hS.2.2 hd (hlocks := C.2.2.2.2.2.2.2.1)
theorem g_lret (C : Ok E X cc own nL (some .long) t) {v : Int64} (hd : decode cc pc = .ok (.lreturn, 1)) : G E sh X vl pc L [.long v] h (some (v, h)) := by
  obtain ⟨p, e, R, s, m, args, below, meth, c, tv, th⟩ := X
  intro r h' e1 e2 e3 ls H locs hl hP hS
  cases e1
  subst e2
  subst e3
  exact W.lret C.1 C.2.1 C.2.2.2.2.2.2.1 (fun t ht hW => ⟨⟨rfl, by rw [ht]; exact hP⟩, hS.F ht⟩) hS.2.2 hd (hlocks := C.2.2.2.2.2.2.2.1)
theorem g_vret (C : Ok E X cc own nL none t) (hd : decode cc pc = .ok (.return_, 1)) : G E sh X vv pc L [] h (some ((), h)) := by
  obtain ⟨p, e, R, s, m, args, below, meth, c, tv, th⟩ := X
  intro r h' e1 e2 e3 ls H locs hl hP hS
  cases e1
  subst e2
  subst e3
  exact W.vret C.1 C.2.1 C.2.2.2.2.2.2.1 (fun t ht hW => ⟨⟨rfl, by rw [ht]; exact hP⟩, hS.F ht⟩) hS.2.2 hd (hlocks := C.2.2.2.2.2.2.2.1)
def isB (v : Int32) : Bool := v == 0 || v == 1
theorem isB_nar {v : Int32} (hb : isB v = true) : narrow .boolean (.int v) = .int v := by
  unfold isB at hb
  rcases (Bool.or_eq_true _ _).mp hb with q | q
  · have e : v = 0 := by simpa using q
    subst e; rfl
  · have e : v = 1 := by simpa using q
    subst e; rfl
theorem g_iretb (C : Ok E X cc own nL (some .boolean) t) {v : Int32} (hd : decode cc pc = .ok (.ireturn, 1)) : G E sh X vi pc L [.int v] h (ck (isB v) (some (v, h))) := g_ck (fun q => g_iretz C (isB_nar q) hd)
def GF (own : String) (idx ci j : Nat) (rf fin : Bool) : Prop := ∃ (Cn : String) (T : u_T) (N : Nat) (ty : Nat → FieldType), vwCl[ci]? = some (Cn, T, N) ∧ j < N ∧ Cond.fieldLink own idx (T j).1 (T j).2.1 (T j).2.2.1 ∈ AW ∧ (∀ w ∈ u_ws Cn T N, w ∈ AW) ∧ (∀ k, k < N → parseFieldDescriptor (T k).2.2.1 = some (ty k)) ∧ (∀ a, a < N → ∀ b, b < N → a ≠ b → (T a).2.1 ≠ (T b).2.1) ∧ isRf ci j = rf ∧ nF ci = N ∧ (T j).2.2.2 = fin ∧ (rf = false → ty j = .int) ∧ (rf = true → ∀ a, narrow (ty j) (.ref a) = .ref a ∧ fits (ty j) (.ref a) = true)
theorem g_getI (C : Ok E X cc own nL ret t) {idx ci j q : Nat} {fin : Bool} (f : GF own idx ci j false fin) (hq : isO sh q ci = true) (hd : decode cc pc = .ok (.getfield idx, 3)) (k : G E sh X val (pc + 3) L (.int (h.1 q j) :: st) h o) : G E sh X val pc L (.ref (E.2.2.2 + q) :: st) h o := by
  obtain ⟨p, e, R, s, m, args, below, meth, c, tv, th⟩ := X
  obtain ⟨Cn, T, N, ty, h1, h2, h3, h4, h5, h6, h7, h8, h9, h10, h11⟩ := f
  exact fun r h' e1 e2 e3 ls H locs hl hP hS => va_get (v := .int (h.1 q j)) C.1 C.2.1 C.2.2.2.2.1 h4 C.2.2.2.1 C.2.2.2.2.2.1 hP q (mw_get (isO_sh hq)) h1 j h2 (C.2.2.2.2.1 _ h3) (fun _ z => z) (by rw [fl_get (by rw [h8]; exact h2), h7]; rfl) hd (k r h' e1 e2 e3 ls H locs hl hP hS)
theorem g_getA (C : Ok E X cc own nL ret t) {idx ci j q : Nat} {kk : Nat → Option (α × Hp)} {fin : Bool} (f : GF own idx ci j true fin) (hq : isO sh q ci = true) (hd : decode cc pc = .ok (.getfield idx, 3)) (k : ∀ a, h.2 q j = some a → G E sh X val (pc + 3) L (.ref (E.2.2.2 + a) :: st) h (kk a)) : G E sh X val pc L (.ref (E.2.2.2 + q) :: st) h ((h.2 q j).bind kk) := by
  cases hz : h.2 q j with
  | none => exact g_none
  | some a =>
    have k := k a hz
    obtain ⟨p, e, R, s, m, args, below, meth, c, tv, th⟩ := X
    obtain ⟨Cn, T, N, ty, h1, h2, h3, h4, h5, h6, h7, h8, h9, h10, h11⟩ := f
    exact fun r h' e1 e2 e3 ls H locs hl hP hS => va_get (v := .ref (E.2.2.2 + a)) C.1 C.2.1 C.2.2.2.2.1 h4 C.2.2.2.1 C.2.2.2.2.2.1 hP q (mw_get (isO_sh hq)) h1 j h2 (C.2.2.2.2.1 _ h3) (fun _ z => z) (by rw [fl_get (by rw [h8]; exact h2), h7, hz]; rfl) hd (k r h' e1 e2 e3 ls H locs hl hP hS)
theorem g_getO (C : Ok E X cc own nL ret t) {idx ci j q cj : Nat} {kk : Nat → Option (α × Hp)} {fin : Bool} (f : GF own idx ci j true fin) (hq : isO sh q ci = true) (hd : decode cc pc = .ok (.getfield idx, 3)) (k : ∀ a, h.2 q j = some a → isO sh a cj = true → G E sh X val (pc + 3) L (.ref (E.2.2.2 + a) :: st) h (kk a)) : G E sh X val pc L (.ref (E.2.2.2 + q) :: st) h (gO sh (h.2 q j) cj kk) := by
  refine g_getA C f hq hd (fun a ha => ?_)
  exact g_ck (fun hb => k a ha hb)
theorem g_putI (C : Ok E X cc own nL ret t) {idx ci j q : Nat} {v : Int32} {kk : Hp → Option (α × Hp)} (f : GF own idx ci j false false) (hq : isO sh q ci = true) (hd : decode cc pc = .ok (.putfield idx, 3)) (k : ∀ h' : Hp, G E sh X val (pc + 3) L st h' (kk h')) : G E sh X val pc L (.int v :: .ref (E.2.2.2 + q) :: st) h (nm (pI h q j v) kk) := by
  have k := k (pI h q j v)
  obtain ⟨p, e, R, s, m, args, below, meth, c, tv, th⟩ := X
  obtain ⟨Cn, T, N, ty, h1, h2, h3, h4, h5, h6, h7, h8, h9, h10, h11⟩ := f
  have h13 : parseFieldDescriptor (T j).2.2.1 = some .int := by rw [h5 j h2, h10 rfl]
  intro r h' e1 e2 e3 ls H locs hl hP hS
  refine va_put C.1 C.2.1 C.2.2.2.2.1 h4 ty h5 h6 C.2.2.2.1 C.2.2.2.2.2.1 hP mw_D hS q (mw_get (isO_sh hq)) h1 j h2 (C.2.2.2.2.1 _ h3) (fun _ z => z) h9 h13 rfl rfl (by rw [fl_len, h8]; exact h2) hd (fun H1 locs1 hP1 _ hS1 => ?_)
  rw [fl_I h7] at hP1
  have := mw_set (B := E.2.2.2) (cs := E.2.2.1) (h := h) (h' := pI h q j v) (isO_sh hq) pI_off
  refine k r h' e1 e2 e3 ls H1 locs1 hl ?_ hS1
  rw [← this]
  exact hP1
theorem g_putR (C : Ok E X cc own nL ret t) {idx ci j q a : Nat} {kk : Hp → Option (α × Hp)} (f : GF own idx ci j true false) (hq : isO sh q ci = true) (hd : decode cc pc = .ok (.putfield idx, 3)) (k : ∀ h' : Hp, G E sh X val (pc + 3) L st h' (kk h')) : G E sh X val pc L (.ref (E.2.2.2 + a) :: .ref (E.2.2.2 + q) :: st) h (nm (pR h q j (some a)) kk) := by
  have k := k (pR h q j (some a))
  obtain ⟨p, e, R, s, m, args, below, meth, c, tv, th⟩ := X
  obtain ⟨Cn, T, N, ty, h1, h2, h3, h4, h5, h6, h7, h8, h9, h10, h11⟩ := f
  have h12 := h11 rfl (E.2.2.2 + a)
  intro r h' e1 e2 e3 ls H locs hl hP hS
  refine va_put C.1 C.2.1 C.2.2.2.2.1 h4 ty h5 h6 C.2.2.2.1 C.2.2.2.2.2.1 hP mw_D hS q (mw_get (isO_sh hq)) h1 j h2 (C.2.2.2.2.1 _ h3) (fun _ z => z) h9 (h5 j h2) h12.1 h12.2 (by rw [fl_len, h8]; exact h2) hd (fun H1 locs1 hP1 _ hS1 => ?_)
  rw [fl_R h7] at hP1
  have := mw_set (B := E.2.2.2) (cs := E.2.2.1) (h := h) (h' := pR h q j (some a)) (isO_sh hq) pR_off
  refine k r h' e1 e2 e3 ls H1 locs1 hl ?_ hS1
  rw [← this]
  exact hP1
theorem g_iald (C : Ok E X cc own nL ret t) {q : Nat} {i : Int32} (hd : decode cc pc = .ok (.iaload, 1)) (k : G E sh X val (pc + 1) L (.int (h.1 q i.toNatClampNeg) :: st) h o) : G E sh X val pc L (.int i :: .ref (E.2.2.2 + q) :: st) h (ck (aIn sh q i) o) := by
  refine g_ck (fun hb => ?_)
  obtain ⟨n, h1, h2, h3⟩ := aIn_sh hb
  obtain ⟨p, e, R, s, m, args, below, meth, c, tv, th⟩ := X
  exact fun r h' e1 e2 e3 ls H locs hl hP hS => va_iald C.1 C.2.1 C.2.2.2.2.2.1 hP q 0 (mw_get h1) rfl h2 hd (k r h' e1 e2 e3 ls H locs hl hP hS)
theorem g_iast (C : Ok E X cc own nL ret t) {q : Nat} {i v : Int32} {kk : Hp → Option (α × Hp)} (hd : decode cc pc = .ok (.iastore, 1)) (k : ∀ h' : Hp, G E sh X val (pc + 1) L st h' (kk h')) : G E sh X val pc L (.int v :: .int i :: .ref (E.2.2.2 + q) :: st) h (ck (aIn sh q i) (nm (pI h q i.toNatClampNeg v) kk)) := by
  refine g_ck (fun hb => ?_)
  obtain ⟨n, h1, h2, h3⟩ := aIn_sh hb
  have k := k (pI h q i.toNatClampNeg v)
  obtain ⟨p, e, R, s, m, args, below, meth, c, tv, th⟩ := X
  intro r h' e1 e2 e3 ls H locs hl hP hS
  refine va_iast C.1 C.2.1 C.2.2.2.2.2.1 hP mw_D hS q 0 (mw_get h1) rfl h2 hd (fun H1 locs1 hP1 _ hS1 => ?_)
  refine k r h' e1 e2 e3 ls H1 locs1 hl ?_ hS1
  have e9 : upd (h.1 q) i.toNatClampNeg v = (pI h q i.toNatClampNeg v).1 q := by
    funext b
    simp [upd, pI, u2]
  rw [e9] at hP1
  have := mw_set (B := E.2.2.2) (cs := E.2.2.1) (h := h) (h' := pI h q i.toNatClampNeg v) h1 pI_off
  rw [← this]
  exact hP1
theorem g_alen (C : Ok E X cc own nL ret t) {q : Nat} {kk : Nat → Option (α × Hp)} (hd : decode cc pc = .ok (.arraylength, 1)) (k : ∀ n : Nat, aLn sh q = some n → G E sh X val (pc + 1) L (.int (nI n) :: st) h (kk n)) : G E sh X val pc L (.ref (E.2.2.2 + q) :: st) h ((aLn sh q).bind kk) := by
  cases hz : aLn sh q with
  | none => exact g_none
  | some n =>
    have k := k n hz
    obtain ⟨p, e, R, s, m, args, below, meth, c, tv, th⟩ := X
    exact fun r h' e1 e2 e3 ls H locs hl hP hS => va_alen C.1 C.2.1 C.2.2.2.2.2.1 hP q 0 (mw_get (aLn_sh hz)) rfl rfl hd (k r h' e1 e2 e3 ls H locs hl hP hS)
theorem g_aald (C : Ok E X cc own nL ret t) (kd : Nat) (hkd : kd = 2 ∨ kd = 3) {q : Nat} {i : Int32} {kk : Nat → Option (α × Hp)} (hd : decode cc pc = .ok (.aaload, 1)) (k : ∀ a : Nat, h.2 q i.toNatClampNeg = some a → G E sh X val (pc + 1) L (.ref (E.2.2.2 + a) :: st) h (kk a)) : G E sh X val pc L (.int i :: .ref (E.2.2.2 + q) :: st) h (ck (aRn sh kd q i) ((h.2 q i.toNatClampNeg).bind kk)) := by
  refine g_ck (fun hb => ?_)
  obtain ⟨n, h1, h2, h3⟩ := aRn_sh hb
  cases hz : h.2 q i.toNatClampNeg with
  | none => exact g_none
  | some a =>
    have k := k a hz
    obtain ⟨p, e, R, s, m, args, below, meth, c, tv, th⟩ := X
    rcases hkd with rfl | rfl
    · intro r h' e1 e2 e3 ls H locs hl hP hS
      refine va_aldq C.1 C.2.1 C.2.2.2.2.2.1 hP q 1 (mw_get h1) rfl h2 hd ?_
      rw [show rA E.2.2.2 h q i.toNatClampNeg = some (E.2.2.2 + a) by unfold rA; rw [hz]; rfl]
      exact k r h' e1 e2 e3 ls H locs hl hP hS
    · intro r h' e1 e2 e3 ls H locs hl hP hS
      refine W.aald (v := .ref (E.2.2.2 + a)) (ty := .array .int) C.1 C.2.1 (hP q _ (mw_get h1)) ((C.2.2.2.2.2.1.2 2 _ rfl).1 n (fun j => va_rf (rA E.2.2.2 h q j))) rfl (fun q => by cases q) (by show ¬ (i < 0 ∨ (arrV _ _ _).slots.size ≤ _); rw [arrV_size]; exact h2) (by show (arrV _ _ _).slots[_]? = _; rw [arrV_read _ _ h3]; unfold rA; rw [hz]; rfl) rfl rfl hd ?_
      exact k r h' e1 e2 e3 ls H locs hl hP hS
theorem g_aaldO (C : Ok E X cc own nL ret t) {q cj : Nat} {i : Int32} {kk : Nat → Option (α × Hp)} (hd : decode cc pc = .ok (.aaload, 1)) (k : ∀ a : Nat, h.2 q i.toNatClampNeg = some a → isO sh a cj = true → G E sh X val (pc + 1) L (.ref (E.2.2.2 + a) :: st) h (kk a)) : G E sh X val pc L (.int i :: .ref (E.2.2.2 + q) :: st) h (ck (aRn sh 2 q i) (gO sh (h.2 q i.toNatClampNeg) cj kk)) := by
  refine g_aald C 2 (Or.inl rfl) hd (fun a ha => ?_)
  exact g_ck (fun hb => k a ha hb)
theorem g_copy (C : Ok E X cc own nL ret t) {idx a b : Nat} {sp dp n : Int32} {kk : Hp → Option (α × Hp)} (hm : Cond.methodLink own idx arraycopyName ∈ AW ∧ Cond.native arraycopyName ∈ AW ∧ Cond.static arraycopyName ∈ AW ∧ Cond.initialized "java/lang/System" ∈ AW) (ht : 1 ≤ t) (hst : (st.map fun v => v.category).sum ≤ 8) (hd : decode cc pc = .ok (.invokestatic idx, 3)) (k : ∀ h' : Hp, G E sh X val (pc + 3) L st h' (kk h')) : G E sh X val pc L (.int n :: .int dp :: .ref (E.2.2.2 + b) :: .int sp :: .ref (E.2.2.2 + a) :: st) h (ck (aCp sh a sp b dp n) (nm (pC h a b sp.toNatClampNeg dp.toNatClampNeg n.toNatClampNeg) kk)) := by
  refine g_ck (fun hb => ?_)
  obtain ⟨n0, n1, h1, h2, h3, h4, h5, h6, h7⟩ := aCp_sh hb
  have k := k (pC h a b sp.toNatClampNeg dp.toNatClampNeg n.toNatClampNeg)
  obtain ⟨p, e, R, s, m, args, below, meth, c, tv, th⟩ := X
  intro r h' e1 e2 e3 ls H locs hl hP hS
  have hR : R = rmL t := C.2.2.2.2.2.2.2.2
  refine va_copyi C.1 C.2.1 hl.1.symm C.2.2.2.1 (C.2.2.2.2.1 _ hm.1) (C.2.2.2.2.1 _ hm.2.1) (C.2.2.2.2.1 _ hm.2.2.1) (C.2.2.2.2.1 _ hm.2.2.2) C.2.2.2.2.2.1 hP mw_D hS a b 0 0 (ty := .int) (mw_get h1) (mw_get h2) rfl rfl rfl h3 h4 h5 h6 h7 (fun i _ => rfl) (by rw [hR]; exact ht) (by rw [hR]; show _ ≤ 64 * t; have : nativeFrameWords "java/lang/System" "arraycopy" 5 ≤ 40 := (by decide); omega) hd (fun H1 locs1 hP1 _ hS1 => ?_)
  refine k r h' e1 e2 e3 ls H1 locs1 hl ?_ hS1
  have e9 : va_cpy (h.1 a) (h.1 b) sp.toNatClampNeg dp.toNatClampNeg n.toNatClampNeg = (pC h a b sp.toNatClampNeg dp.toNatClampNeg n.toNatClampNeg).1 b := by
    funext j
    simp [pC]
  rw [e9] at hP1
  have := mw_set (B := E.2.2.2) (cs := E.2.2.1) (h := h) (h' := pC h a b sp.toNatClampNeg dp.toNatClampNeg n.toNatClampNeg) h2 pC_off
  rw [← this]
  exact hP1
def mA (x : Int32) : Int32 := if 0 ≤ x then x else 0 - x
def mX (x y : Int32) : Int32 := if x < y then y else x
theorem g_mmax (C : Ok E X cc own nL ret t) {idx : Nat} {x y : Int32} (hm : Cond.methodLink own idx Lib.Math.max.name ∈ AW ∧ Cond.static Lib.Math.max.name ∈ AW ∧ Cond.initialized "java/lang/Math" ∈ AW ∧ Cond.code Lib.Math.max.name Lib.Math.max.code 2 (some .int) ∈ AW) (ht : 1 ≤ t) (hst : (st.map fun v => v.category).sum ≤ 8) (hd : decode cc pc = .ok (.invokestatic idx, 3)) (k : G E sh X val (pc + 3) L (.int (mX x y) :: st) h o) : G E sh X val pc L (.int y :: .int x :: st) h o := by
  obtain ⟨p, e, R, s, m, args, below, meth, c, tv, th⟩ := X
  have hR : R = rmL t := C.2.2.2.2.2.2.2.2
  exact fun r h' e1 e2 e3 ls H locs hl hP hS => va_mmax C.1 C.2.1 hl.1.symm C.2.2.2.1 (C.2.2.2.2.1 _ hm.1) (C.2.2.2.2.1 _ hm.2.1) (C.2.2.2.2.1 _ hm.2.2.1) (C.2.2.2.2.1 _ hm.2.2.2) (by rw [hR]; exact ht) (by rw [hR]; show _ ≤ 64 * t; omega) (Nat.zero_le _) (Nat.zero_le _) hd (k r h' e1 e2 e3 ls H locs hl hP hS)
theorem g_mabs (C : Ok E X cc own nL ret t) {idx : Nat} {x : Int32} (hm : Cond.methodLink own idx Lib.Math.abs.name ∈ AW ∧ Cond.static Lib.Math.abs.name ∈ AW ∧ Cond.initialized "java/lang/Math" ∈ AW ∧ Cond.code Lib.Math.abs.name Lib.Math.abs.code 1 (some .int) ∈ AW) (ht : 1 ≤ t) (hst : (st.map fun v => v.category).sum ≤ 8) (hd : decode cc pc = .ok (.invokestatic idx, 3)) (k : G E sh X val (pc + 3) L (.int (mA x) :: st) h o) : G E sh X val pc L (.int x :: st) h o := by
  obtain ⟨p, e, R, s, m, args, below, meth, c, tv, th⟩ := X
  have hR : R = rmL t := C.2.2.2.2.2.2.2.2
  exact fun r h' e1 e2 e3 ls H locs hl hP hS => va_mabs C.1 C.2.1 hl.1.symm C.2.2.2.1 (C.2.2.2.2.1 _ hm.1) (C.2.2.2.2.1 _ hm.2.1) (C.2.2.2.2.1 _ hm.2.2.1) (C.2.2.2.2.1 _ hm.2.2.2) (by rw [hR]; exact ht) (by rw [hR]; show _ ≤ 64 * t; omega) (Nat.zero_le _) (Nat.zero_le _) hd (k r h' e1 e2 e3 ls H locs hl hP hS)
def CF (own : String) (idx : Nat) (y : MethodName) (cy : ByteArray) (nLy : Nat) (ry : Option FieldType) (n : Nat) : Prop := Cond.code y cy nLy ry ∈ AW ∧ Cond.initialized y.cls ∈ AW ∧ Cond.methodLink own idx y ∈ AW ∧ (y.cls ≠ "java/lang/invoke/MethodHandle" ∧ y.cls ≠ "java/lang/invoke/VarHandle" ∧ (parseMethodDescriptor y.desc).map (fun d => d.parameters.length) = some n)
def CV (y : MethodName) (ci : Nat) : Prop := Cond.instanceMethod y ∈ AW ∧ Cond.selects y.cls y y ∈ AW ∧ ∃ T N, vwCl[ci]? = some (y.cls, T, N)
theorem g_run {β : Type} {valc : β → Option Value} {Fy : Option (β × Hp)} {kk : β → Hp → Option (α × Hp)} {st0 rest : List Value} {av : Array Value} {p : Program} {e : Env} {R : Room} {s : State} {m : MethodId} {args : Array Value} {below : List Frame} {meth : Method} {c : Code} {tv : Option Value} {th : Hp}
    (hr : ∀ (r : β) (h' : Hp), Fy = some (r, h') → ∀ (ls : Array Slot) (H : Heap) (locs : List Loc), hasL ls c.maxLocals L → va_P E.2.1 vwCl (mw E.2.2.2 E.2.2.1 sh h) H → va_S (AA E.2.2.2 sh.length) s.heap H locs → va_Run p E.1 e R s m args below meth c H locs 0 0 0 0 (F0 m pc ls st0) rest (Qm E sh (valc r) h' av) (AA E.2.2.2 sh.length))
    (k : ∀ (r : β) (h' : Hp), Fy = some (r, h') → G E sh (p, e, R, s, m, args, below, meth, c, tv, th) val (pc + 3) L ((valc r).toList ++ rest) h' (kk r h')) : G E sh (p, e, R, s, m, args, below, meth, c, tv, th) val pc L st0 h (bnd Fy kk) := by
  intro r h' e1 e2 e3 ls H locs hl hP hS
  cases hF : Fy with
  | none => rw [hF] at e1; cases e1
  | some x =>
    obtain ⟨r1, h1⟩ := x
    rw [hF] at e1
    intro T hT Xs
    obtain ⟨v, st₀, t, T', Ll, h0, X', hL, f1, f2, ⟨⟨hv, hP1⟩, hz, hk⟩, stp⟩ := hr r1 h1 hF ls H locs hl hP hS T hT Xs
    cases hv
    rw [h0] at hz hk
    obtain ⟨t2, a1, b1⟩ := k r1 h1 hF r h' e1 e2 e3 ls T'.heap (locs ++ Ll) hl (by rw [f1]; exact hP1)
      ⟨Nat.le_trans hS.1 (by rw [f1]; exact hz), fun q q1 q2 => by rw [f1, hk q (Nat.lt_of_lt_of_le q1 hS.1) q2]; exact hS.2.1 q q1 q2, fun q hq => by
        rcases List.mem_append.mp hq with z | z
        · exact hS.2.2 q z
        · exact hL q z⟩ T' rfl X'
    exact ⟨t2, stp t2 a1, b1⟩
theorem wl_good : ∀ w ∈ AW, (w.onTables && w.keeps) = true ∨ ∃ ty, w = .arrayClass ty := fun w hw => good_of_word (List.mem_filter.mp hw).2
theorem cf_good {y : MethodName} {cy : ByteArray} {nLy : Nat} {ry : Option FieldType} (hc : Cond.code y cy nLy ry ∈ AW) : GoodIn AW (Cond.code y cy nLy ry :: AW) := fun w hw => (List.mem_cons.mp hw).elim (fun q => by rw [q]; exact ⟨hc, wl_good _ hc⟩) (fun q => ⟨q, wl_good w q⟩)
theorem cf_B {R : Room} {s : State} {args : Array Value} {idx : Nat} {y : MethodName} {cy : ByteArray} {nLy ty n : Nat} {ry : Option FieldType} (hts : ∀ w ∈ AW, w.before args s = true) (f : CF own idx y cy nLy ry n) (hR : R = rmL t) (ht : ty + 1 ≤ t) (hn : nLy ≤ 40) : CallB R s args own idx y cy nLy ry (Cond.code y cy nLy ry :: AW) (rmL ty) 0 0 n :=
  callB_of n hts (cf_good f.1) rfl rfl rfl (hts _ f.2.1) (hts _ f.2.2.1) f.2.2.2 (by subst hR; exact ⟨ht, by show 8 + (nLy + 11) + 64 * ty ≤ 64 * t; omega⟩)
theorem g_callV {β : Type} {valc : β → Option Value} {Fy : Option (β × Hp)} {kk : β → Hp → Option (α × Hp)} (As rest : List Value) {q ci idx : Nat} {y : MethodName} {cy : ByteArray} {nLy ty n : Nat} {ry : Option FieldType} {st0 : List Value} (C : Ok E X cc own nL ret t) (f : CF own idx y cy nLy ry n) (fv : CV y ci) (hq : isO sh q ci = true) (hM : ∀ (r : β) (h' : Hp), Fy = some (r, h') → Ctr E sh y cy nLy ry ty (.ref (E.2.2.2 + q) :: As) h (valc r) h') (ht : ty + 1 ≤ t) (hn : nLy ≤ 40) (hlen : As.length = n) (hst : st0 = As.reverse ++ .ref (E.2.2.2 + q) :: rest) (hs8 : (rest.map fun v => v.category).sum ≤ 8) (hd : decode cc pc = .ok (.invokevirtual idx, 3))
    (k : ∀ (r : β) (h' : Hp), Fy = some (r, h') → G E sh X val (pc + 3) L ((valc r).toList ++ rest) h' (kk r h')) : G E sh X val pc L st0 h (bnd Fy kk) := by
  obtain ⟨p, e, R, s, m, args, below, meth, c, tv, th⟩ := X
  refine g_run (valc := valc) (rest := rest) (av := (.ref (E.2.2.2 + q) :: As).toArray) (fun r h' e ls H locs hl hP hS => ?_) k
  obtain ⟨f1, f2, T, N, f3⟩ := fv
  exact va_runV ⟨C.1, C.2.1, rfl, C.2.2.2.1, C.2.2.2.2.1⟩ (hM r h' e) ⟨cf_B C.2.2.2.2.1 f C.2.2.2.2.2.2.2.2 ht hn, C.2.2.2.2.1 _ f1, C.2.2.2.2.1 _ f2⟩
    ⟨fun a U g mk z => ⟨z.1, z.2.1, va_K.moved (u := U) (U := U.calling g mk a) (Vm.Alike.refl U.vm) z.2.2⟩, va_recv C.2.2.2.2.2.1 hP f3 (mw_get (isO_sh hq)), fun U hU hW => ⟨rfl, by rw [hU]; exact hP, va_K.moved hW.alike C.2.2.2.2.2.1⟩⟩ rfl hlen hl.1 hst (lv_room hs8) hd ⟨Nat.zero_le _, Nat.zero_le _⟩
theorem g_callS {β : Type} {valc : β → Option Value} {Fy : Option (β × Hp)} {kk : β → Hp → Option (α × Hp)} (As rest : List Value) {idx : Nat} {y : MethodName} {cy : ByteArray} {nLy ty n : Nat} {ry : Option FieldType} {st0 : List Value} (C : Ok E X cc own nL ret t) (f : CF own idx y cy nLy ry n) (fs : Cond.static y ∈ AW) (hM : ∀ (r : β) (h' : Hp), Fy = some (r, h') → Ctr E sh y cy nLy ry ty As h (valc r) h') (ht : ty + 1 ≤ t) (hn : nLy ≤ 40) (hlen : As.length = n) (hst : st0 = As.reverse ++ rest) (hs8 : (rest.map fun v => v.category).sum ≤ 8) (hd : decode cc pc = .ok (.invokestatic idx, 3))
    (k : ∀ (r : β) (h' : Hp), Fy = some (r, h') → G E sh X val (pc + 3) L ((valc r).toList ++ rest) h' (kk r h')) : G E sh X val pc L st0 h (bnd Fy kk) := by
  obtain ⟨p, e, R, s, m, args, below, meth, c, tv, th⟩ := X
  refine g_run (valc := valc) (rest := rest) (av := As.toArray) (fun r h' e ls H locs hl hP hS => ?_) k
  exact va_runS ⟨C.1, C.2.1, rfl, C.2.2.2.1, C.2.2.2.2.1⟩ (hM r h' e) ⟨cf_B C.2.2.2.2.1 f C.2.2.2.2.2.2.2.2 ht hn, C.2.2.2.2.1 _ fs⟩
    ⟨fun a U g mk z => ⟨z.1, z.2.1, va_K.moved (u := U) (U := U.calling g mk a) (Vm.Alike.refl U.vm) z.2.2⟩, fun U hU hW => ⟨rfl, by rw [hU]; exact hP, va_K.moved hW.alike C.2.2.2.2.2.1⟩⟩ rfl hlen hl.1 hst (lv_room hs8) hd ⟨Nat.zero_le _, Nat.zero_le _⟩
theorem g_cVi0 {Fy : Option (Int32 × Hp)} {kk : Int32 → Hp → Option (α × Hp)} {q ci idx : Nat} {y : MethodName} {cy : ByteArray} {nLy ty : Nat} {ry : Option FieldType} (C : Ok E X cc own nL ret t) (f : CF own idx y cy nLy ry 0) (fv : CV y ci) (hq : isO sh q ci = true) (hM : ∀ (r : Int32) (h' : Hp), Fy = some (r, h') → Ctr E sh y cy nLy ry ty (.ref (E.2.2.2 + q) :: []) h (vi r) h') (ht : ty + 1 ≤ t) (hn : nLy ≤ 40) (hs8 : (st.map fun v => v.category).sum ≤ 8) (hd : decode cc pc = .ok (.invokevirtual idx, 3)) (k : ∀ (r : Int32) (h' : Hp), Fy = some (r, h') → G E sh X val (pc + 3) L (.int r :: st) h' (kk r h')) : G E sh X val pc L (.ref (E.2.2.2 + q) :: st) h (bnd Fy kk) := g_callV [] st C f fv hq hM ht hn rfl rfl hs8 hd k
theorem g_cVl0 {Fy : Option (Int64 × Hp)} {kk : Int64 → Hp → Option (α × Hp)} {q ci idx : Nat} {y : MethodName} {cy : ByteArray} {nLy ty : Nat} {ry : Option FieldType} (C : Ok E X cc own nL ret t) (f : CF own idx y cy nLy ry 0) (fv : CV y ci) (hq : isO sh q ci = true) (hM : ∀ (r : Int64) (h' : Hp), Fy = some (r, h') → Ctr E sh y cy nLy ry ty (.ref (E.2.2.2 + q) :: []) h (vl r) h') (ht : ty + 1 ≤ t) (hn : nLy ≤ 40) (hs8 : (st.map fun v => v.category).sum ≤ 8) (hd : decode cc pc = .ok (.invokevirtual idx, 3)) (k : ∀ (r : Int64) (h' : Hp), Fy = some (r, h') → G E sh X val (pc + 3) L (.long r :: st) h' (kk r h')) : G E sh X val pc L (.ref (E.2.2.2 + q) :: st) h (bnd Fy kk) := g_callV [] st C f fv hq hM ht hn rfl rfl hs8 hd k
theorem g_cVv0 {Fy : Option (Unit × Hp)} {kk : Unit → Hp → Option (α × Hp)} {q ci idx : Nat} {y : MethodName} {cy : ByteArray} {nLy ty : Nat} {ry : Option FieldType} (C : Ok E X cc own nL ret t) (f : CF own idx y cy nLy ry 0) (fv : CV y ci) (hq : isO sh q ci = true) (hM : ∀ (r : Unit) (h' : Hp), Fy = some (r, h') → Ctr E sh y cy nLy ry ty (.ref (E.2.2.2 + q) :: []) h (vv r) h') (ht : ty + 1 ≤ t) (hn : nLy ≤ 40) (hs8 : (st.map fun v => v.category).sum ≤ 8) (hd : decode cc pc = .ok (.invokevirtual idx, 3)) (k : ∀ (r : Unit) (h' : Hp), Fy = some (r, h') → G E sh X val (pc + 3) L (st) h' (kk r h')) : G E sh X val pc L (.ref (E.2.2.2 + q) :: st) h (bnd Fy kk) := g_callV [] st C f fv hq hM ht hn rfl rfl hs8 hd k
theorem g_cVi1 {Fy : Option (Int32 × Hp)} {kk : Int32 → Hp → Option (α × Hp)} {a1 : Value} {q ci idx : Nat} {y : MethodName} {cy : ByteArray} {nLy ty : Nat} {ry : Option FieldType} (C : Ok E X cc own nL ret t) (f : CF own idx y cy nLy ry 1) (fv : CV y ci) (hq : isO sh q ci = true) (hM : ∀ (r : Int32) (h' : Hp), Fy = some (r, h') → Ctr E sh y cy nLy ry ty (.ref (E.2.2.2 + q) :: [a1]) h (vi r) h') (ht : ty + 1 ≤ t) (hn : nLy ≤ 40) (hs8 : (st.map fun v => v.category).sum ≤ 8) (hd : decode cc pc = .ok (.invokevirtual idx, 3)) (k : ∀ (r : Int32) (h' : Hp), Fy = some (r, h') → G E sh X val (pc + 3) L (.int r :: st) h' (kk r h')) : G E sh X val pc L (a1 :: .ref (E.2.2.2 + q) :: st) h (bnd Fy kk) := g_callV [a1] st C f fv hq hM ht hn rfl rfl hs8 hd k
theorem g_cVl1 {Fy : Option (Int64 × Hp)} {kk : Int64 → Hp → Option (α × Hp)} {a1 : Value} {q ci idx : Nat} {y : MethodName} {cy : ByteArray} {nLy ty : Nat} {ry : Option FieldType} (C : Ok E X cc own nL ret t) (f : CF own idx y cy nLy ry 1) (fv : CV y ci) (hq : isO sh q ci = true) (hM : ∀ (r : Int64) (h' : Hp), Fy = some (r, h') → Ctr E sh y cy nLy ry ty (.ref (E.2.2.2 + q) :: [a1]) h (vl r) h') (ht : ty + 1 ≤ t) (hn : nLy ≤ 40) (hs8 : (st.map fun v => v.category).sum ≤ 8) (hd : decode cc pc = .ok (.invokevirtual idx, 3)) (k : ∀ (r : Int64) (h' : Hp), Fy = some (r, h') → G E sh X val (pc + 3) L (.long r :: st) h' (kk r h')) : G E sh X val pc L (a1 :: .ref (E.2.2.2 + q) :: st) h (bnd Fy kk) := g_callV [a1] st C f fv hq hM ht hn rfl rfl hs8 hd k
theorem g_cVv1 {Fy : Option (Unit × Hp)} {kk : Unit → Hp → Option (α × Hp)} {a1 : Value} {q ci idx : Nat} {y : MethodName} {cy : ByteArray} {nLy ty : Nat} {ry : Option FieldType} (C : Ok E X cc own nL ret t) (f : CF own idx y cy nLy ry 1) (fv : CV y ci) (hq : isO sh q ci = true) (hM : ∀ (r : Unit) (h' : Hp), Fy = some (r, h') → Ctr E sh y cy nLy ry ty (.ref (E.2.2.2 + q) :: [a1]) h (vv r) h') (ht : ty + 1 ≤ t) (hn : nLy ≤ 40) (hs8 : (st.map fun v => v.category).sum ≤ 8) (hd : decode cc pc = .ok (.invokevirtual idx, 3)) (k : ∀ (r : Unit) (h' : Hp), Fy = some (r, h') → G E sh X val (pc + 3) L (st) h' (kk r h')) : G E sh X val pc L (a1 :: .ref (E.2.2.2 + q) :: st) h (bnd Fy kk) := g_callV [a1] st C f fv hq hM ht hn rfl rfl hs8 hd k
theorem g_cVi2 {Fy : Option (Int32 × Hp)} {kk : Int32 → Hp → Option (α × Hp)} {a1 a2 : Value} {q ci idx : Nat} {y : MethodName} {cy : ByteArray} {nLy ty : Nat} {ry : Option FieldType} (C : Ok E X cc own nL ret t) (f : CF own idx y cy nLy ry 2) (fv : CV y ci) (hq : isO sh q ci = true) (hM : ∀ (r : Int32) (h' : Hp), Fy = some (r, h') → Ctr E sh y cy nLy ry ty (.ref (E.2.2.2 + q) :: [a1, a2]) h (vi r) h') (ht : ty + 1 ≤ t) (hn : nLy ≤ 40) (hs8 : (st.map fun v => v.category).sum ≤ 8) (hd : decode cc pc = .ok (.invokevirtual idx, 3)) (k : ∀ (r : Int32) (h' : Hp), Fy = some (r, h') → G E sh X val (pc + 3) L (.int r :: st) h' (kk r h')) : G E sh X val pc L (a2 :: a1 :: .ref (E.2.2.2 + q) :: st) h (bnd Fy kk) := g_callV [a1, a2] st C f fv hq hM ht hn rfl rfl hs8 hd k
theorem g_cVl2 {Fy : Option (Int64 × Hp)} {kk : Int64 → Hp → Option (α × Hp)} {a1 a2 : Value} {q ci idx : Nat} {y : MethodName} {cy : ByteArray} {nLy ty : Nat} {ry : Option FieldType} (C : Ok E X cc own nL ret t) (f : CF own idx y cy nLy ry 2) (fv : CV y ci) (hq : isO sh q ci = true) (hM : ∀ (r : Int64) (h' : Hp), Fy = some (r, h') → Ctr E sh y cy nLy ry ty (.ref (E.2.2.2 + q) :: [a1, a2]) h (vl r) h') (ht : ty + 1 ≤ t) (hn : nLy ≤ 40) (hs8 : (st.map fun v => v.category).sum ≤ 8) (hd : decode cc pc = .ok (.invokevirtual idx, 3)) (k : ∀ (r : Int64) (h' : Hp), Fy = some (r, h') → G E sh X val (pc + 3) L (.long r :: st) h' (kk r h')) : G E sh X val pc L (a2 :: a1 :: .ref (E.2.2.2 + q) :: st) h (bnd Fy kk) := g_callV [a1, a2] st C f fv hq hM ht hn rfl rfl hs8 hd k
theorem g_cVv2 {Fy : Option (Unit × Hp)} {kk : Unit → Hp → Option (α × Hp)} {a1 a2 : Value} {q ci idx : Nat} {y : MethodName} {cy : ByteArray} {nLy ty : Nat} {ry : Option FieldType} (C : Ok E X cc own nL ret t) (f : CF own idx y cy nLy ry 2) (fv : CV y ci) (hq : isO sh q ci = true) (hM : ∀ (r : Unit) (h' : Hp), Fy = some (r, h') → Ctr E sh y cy nLy ry ty (.ref (E.2.2.2 + q) :: [a1, a2]) h (vv r) h') (ht : ty + 1 ≤ t) (hn : nLy ≤ 40) (hs8 : (st.map fun v => v.category).sum ≤ 8) (hd : decode cc pc = .ok (.invokevirtual idx, 3)) (k : ∀ (r : Unit) (h' : Hp), Fy = some (r, h') → G E sh X val (pc + 3) L (st) h' (kk r h')) : G E sh X val pc L (a2 :: a1 :: .ref (E.2.2.2 + q) :: st) h (bnd Fy kk) := g_callV [a1, a2] st C f fv hq hM ht hn rfl rfl hs8 hd k
theorem g_cVi3 {Fy : Option (Int32 × Hp)} {kk : Int32 → Hp → Option (α × Hp)} {a1 a2 a3 : Value} {q ci idx : Nat} {y : MethodName} {cy : ByteArray} {nLy ty : Nat} {ry : Option FieldType} (C : Ok E X cc own nL ret t) (f : CF own idx y cy nLy ry 3) (fv : CV y ci) (hq : isO sh q ci = true) (hM : ∀ (r : Int32) (h' : Hp), Fy = some (r, h') → Ctr E sh y cy nLy ry ty (.ref (E.2.2.2 + q) :: [a1, a2, a3]) h (vi r) h') (ht : ty + 1 ≤ t) (hn : nLy ≤ 40) (hs8 : (st.map fun v => v.category).sum ≤ 8) (hd : decode cc pc = .ok (.invokevirtual idx, 3)) (k : ∀ (r : Int32) (h' : Hp), Fy = some (r, h') → G E sh X val (pc + 3) L (.int r :: st) h' (kk r h')) : G E sh X val pc L (a3 :: a2 :: a1 :: .ref (E.2.2.2 + q) :: st) h (bnd Fy kk) := g_callV [a1, a2, a3] st C f fv hq hM ht hn rfl rfl hs8 hd k
theorem g_cVl3 {Fy : Option (Int64 × Hp)} {kk : Int64 → Hp → Option (α × Hp)} {a1 a2 a3 : Value} {q ci idx : Nat} {y : MethodName} {cy : ByteArray} {nLy ty : Nat} {ry : Option FieldType} (C : Ok E X cc own nL ret t) (f : CF own idx y cy nLy ry 3) (fv : CV y ci) (hq : isO sh q ci = true) (hM : ∀ (r : Int64) (h' : Hp), Fy = some (r, h') → Ctr E sh y cy nLy ry ty (.ref (E.2.2.2 + q) :: [a1, a2, a3]) h (vl r) h') (ht : ty + 1 ≤ t) (hn : nLy ≤ 40) (hs8 : (st.map fun v => v.category).sum ≤ 8) (hd : decode cc pc = .ok (.invokevirtual idx, 3)) (k : ∀ (r : Int64) (h' : Hp), Fy = some (r, h') → G E sh X val (pc + 3) L (.long r :: st) h' (kk r h')) : G E sh X val pc L (a3 :: a2 :: a1 :: .ref (E.2.2.2 + q) :: st) h (bnd Fy kk) := g_callV [a1, a2, a3] st C f fv hq hM ht hn rfl rfl hs8 hd k
theorem g_cVv3 {Fy : Option (Unit × Hp)} {kk : Unit → Hp → Option (α × Hp)} {a1 a2 a3 : Value} {q ci idx : Nat} {y : MethodName} {cy : ByteArray} {nLy ty : Nat} {ry : Option FieldType} (C : Ok E X cc own nL ret t) (f : CF own idx y cy nLy ry 3) (fv : CV y ci) (hq : isO sh q ci = true) (hM : ∀ (r : Unit) (h' : Hp), Fy = some (r, h') → Ctr E sh y cy nLy ry ty (.ref (E.2.2.2 + q) :: [a1, a2, a3]) h (vv r) h') (ht : ty + 1 ≤ t) (hn : nLy ≤ 40) (hs8 : (st.map fun v => v.category).sum ≤ 8) (hd : decode cc pc = .ok (.invokevirtual idx, 3)) (k : ∀ (r : Unit) (h' : Hp), Fy = some (r, h') → G E sh X val (pc + 3) L (st) h' (kk r h')) : G E sh X val pc L (a3 :: a2 :: a1 :: .ref (E.2.2.2 + q) :: st) h (bnd Fy kk) := g_callV [a1, a2, a3] st C f fv hq hM ht hn rfl rfl hs8 hd k
theorem g_cVi4 {Fy : Option (Int32 × Hp)} {kk : Int32 → Hp → Option (α × Hp)} {a1 a2 a3 a4 : Value} {q ci idx : Nat} {y : MethodName} {cy : ByteArray} {nLy ty : Nat} {ry : Option FieldType} (C : Ok E X cc own nL ret t) (f : CF own idx y cy nLy ry 4) (fv : CV y ci) (hq : isO sh q ci = true) (hM : ∀ (r : Int32) (h' : Hp), Fy = some (r, h') → Ctr E sh y cy nLy ry ty (.ref (E.2.2.2 + q) :: [a1, a2, a3, a4]) h (vi r) h') (ht : ty + 1 ≤ t) (hn : nLy ≤ 40) (hs8 : (st.map fun v => v.category).sum ≤ 8) (hd : decode cc pc = .ok (.invokevirtual idx, 3)) (k : ∀ (r : Int32) (h' : Hp), Fy = some (r, h') → G E sh X val (pc + 3) L (.int r :: st) h' (kk r h')) : G E sh X val pc L (a4 :: a3 :: a2 :: a1 :: .ref (E.2.2.2 + q) :: st) h (bnd Fy kk) := g_callV [a1, a2, a3, a4] st C f fv hq hM ht hn rfl rfl hs8 hd k
theorem g_cVl4 {Fy : Option (Int64 × Hp)} {kk : Int64 → Hp → Option (α × Hp)} {a1 a2 a3 a4 : Value} {q ci idx : Nat} {y : MethodName} {cy : ByteArray} {nLy ty : Nat} {ry : Option FieldType} (C : Ok E X cc own nL ret t) (f : CF own idx y cy nLy ry 4) (fv : CV y ci) (hq : isO sh q ci = true) (hM : ∀ (r : Int64) (h' : Hp), Fy = some (r, h') → Ctr E sh y cy nLy ry ty (.ref (E.2.2.2 + q) :: [a1, a2, a3, a4]) h (vl r) h') (ht : ty + 1 ≤ t) (hn : nLy ≤ 40) (hs8 : (st.map fun v => v.category).sum ≤ 8) (hd : decode cc pc = .ok (.invokevirtual idx, 3)) (k : ∀ (r : Int64) (h' : Hp), Fy = some (r, h') → G E sh X val (pc + 3) L (.long r :: st) h' (kk r h')) : G E sh X val pc L (a4 :: a3 :: a2 :: a1 :: .ref (E.2.2.2 + q) :: st) h (bnd Fy kk) := g_callV [a1, a2, a3, a4] st C f fv hq hM ht hn rfl rfl hs8 hd k
theorem g_cVv4 {Fy : Option (Unit × Hp)} {kk : Unit → Hp → Option (α × Hp)} {a1 a2 a3 a4 : Value} {q ci idx : Nat} {y : MethodName} {cy : ByteArray} {nLy ty : Nat} {ry : Option FieldType} (C : Ok E X cc own nL ret t) (f : CF own idx y cy nLy ry 4) (fv : CV y ci) (hq : isO sh q ci = true) (hM : ∀ (r : Unit) (h' : Hp), Fy = some (r, h') → Ctr E sh y cy nLy ry ty (.ref (E.2.2.2 + q) :: [a1, a2, a3, a4]) h (vv r) h') (ht : ty + 1 ≤ t) (hn : nLy ≤ 40) (hs8 : (st.map fun v => v.category).sum ≤ 8) (hd : decode cc pc = .ok (.invokevirtual idx, 3)) (k : ∀ (r : Unit) (h' : Hp), Fy = some (r, h') → G E sh X val (pc + 3) L (st) h' (kk r h')) : G E sh X val pc L (a4 :: a3 :: a2 :: a1 :: .ref (E.2.2.2 + q) :: st) h (bnd Fy kk) := g_callV [a1, a2, a3, a4] st C f fv hq hM ht hn rfl rfl hs8 hd k
theorem g_cVi5 {Fy : Option (Int32 × Hp)} {kk : Int32 → Hp → Option (α × Hp)} {a1 a2 a3 a4 a5 : Value} {q ci idx : Nat} {y : MethodName} {cy : ByteArray} {nLy ty : Nat} {ry : Option FieldType} (C : Ok E X cc own nL ret t) (f : CF own idx y cy nLy ry 5) (fv : CV y ci) (hq : isO sh q ci = true) (hM : ∀ (r : Int32) (h' : Hp), Fy = some (r, h') → Ctr E sh y cy nLy ry ty (.ref (E.2.2.2 + q) :: [a1, a2, a3, a4, a5]) h (vi r) h') (ht : ty + 1 ≤ t) (hn : nLy ≤ 40) (hs8 : (st.map fun v => v.category).sum ≤ 8) (hd : decode cc pc = .ok (.invokevirtual idx, 3)) (k : ∀ (r : Int32) (h' : Hp), Fy = some (r, h') → G E sh X val (pc + 3) L (.int r :: st) h' (kk r h')) : G E sh X val pc L (a5 :: a4 :: a3 :: a2 :: a1 :: .ref (E.2.2.2 + q) :: st) h (bnd Fy kk) := g_callV [a1, a2, a3, a4, a5] st C f fv hq hM ht hn rfl rfl hs8 hd k
theorem g_cVl5 {Fy : Option (Int64 × Hp)} {kk : Int64 → Hp → Option (α × Hp)} {a1 a2 a3 a4 a5 : Value} {q ci idx : Nat} {y : MethodName} {cy : ByteArray} {nLy ty : Nat} {ry : Option FieldType} (C : Ok E X cc own nL ret t) (f : CF own idx y cy nLy ry 5) (fv : CV y ci) (hq : isO sh q ci = true) (hM : ∀ (r : Int64) (h' : Hp), Fy = some (r, h') → Ctr E sh y cy nLy ry ty (.ref (E.2.2.2 + q) :: [a1, a2, a3, a4, a5]) h (vl r) h') (ht : ty + 1 ≤ t) (hn : nLy ≤ 40) (hs8 : (st.map fun v => v.category).sum ≤ 8) (hd : decode cc pc = .ok (.invokevirtual idx, 3)) (k : ∀ (r : Int64) (h' : Hp), Fy = some (r, h') → G E sh X val (pc + 3) L (.long r :: st) h' (kk r h')) : G E sh X val pc L (a5 :: a4 :: a3 :: a2 :: a1 :: .ref (E.2.2.2 + q) :: st) h (bnd Fy kk) := g_callV [a1, a2, a3, a4, a5] st C f fv hq hM ht hn rfl rfl hs8 hd k
theorem g_cVv5 {Fy : Option (Unit × Hp)} {kk : Unit → Hp → Option (α × Hp)} {a1 a2 a3 a4 a5 : Value} {q ci idx : Nat} {y : MethodName} {cy : ByteArray} {nLy ty : Nat} {ry : Option FieldType} (C : Ok E X cc own nL ret t) (f : CF own idx y cy nLy ry 5) (fv : CV y ci) (hq : isO sh q ci = true) (hM : ∀ (r : Unit) (h' : Hp), Fy = some (r, h') → Ctr E sh y cy nLy ry ty (.ref (E.2.2.2 + q) :: [a1, a2, a3, a4, a5]) h (vv r) h') (ht : ty + 1 ≤ t) (hn : nLy ≤ 40) (hs8 : (st.map fun v => v.category).sum ≤ 8) (hd : decode cc pc = .ok (.invokevirtual idx, 3)) (k : ∀ (r : Unit) (h' : Hp), Fy = some (r, h') → G E sh X val (pc + 3) L (st) h' (kk r h')) : G E sh X val pc L (a5 :: a4 :: a3 :: a2 :: a1 :: .ref (E.2.2.2 + q) :: st) h (bnd Fy kk) := g_callV [a1, a2, a3, a4, a5] st C f fv hq hM ht hn rfl rfl hs8 hd k
theorem g_cSi0 {Fy : Option (Int32 × Hp)} {kk : Int32 → Hp → Option (α × Hp)} {idx : Nat} {y : MethodName} {cy : ByteArray} {nLy ty : Nat} {ry : Option FieldType} (C : Ok E X cc own nL ret t) (f : CF own idx y cy nLy ry 0) (fs : Cond.static y ∈ AW) (hM : ∀ (r : Int32) (h' : Hp), Fy = some (r, h') → Ctr E sh y cy nLy ry ty [] h (vi r) h') (ht : ty + 1 ≤ t) (hn : nLy ≤ 40) (hs8 : (st.map fun v => v.category).sum ≤ 8) (hd : decode cc pc = .ok (.invokestatic idx, 3)) (k : ∀ (r : Int32) (h' : Hp), Fy = some (r, h') → G E sh X val (pc + 3) L (.int r :: st) h' (kk r h')) : G E sh X val pc L (st) h (bnd Fy kk) := g_callS [] st C f fs hM ht hn rfl rfl hs8 hd k
theorem g_cSl0 {Fy : Option (Int64 × Hp)} {kk : Int64 → Hp → Option (α × Hp)} {idx : Nat} {y : MethodName} {cy : ByteArray} {nLy ty : Nat} {ry : Option FieldType} (C : Ok E X cc own nL ret t) (f : CF own idx y cy nLy ry 0) (fs : Cond.static y ∈ AW) (hM : ∀ (r : Int64) (h' : Hp), Fy = some (r, h') → Ctr E sh y cy nLy ry ty [] h (vl r) h') (ht : ty + 1 ≤ t) (hn : nLy ≤ 40) (hs8 : (st.map fun v => v.category).sum ≤ 8) (hd : decode cc pc = .ok (.invokestatic idx, 3)) (k : ∀ (r : Int64) (h' : Hp), Fy = some (r, h') → G E sh X val (pc + 3) L (.long r :: st) h' (kk r h')) : G E sh X val pc L (st) h (bnd Fy kk) := g_callS [] st C f fs hM ht hn rfl rfl hs8 hd k
theorem g_cSv0 {Fy : Option (Unit × Hp)} {kk : Unit → Hp → Option (α × Hp)} {idx : Nat} {y : MethodName} {cy : ByteArray} {nLy ty : Nat} {ry : Option FieldType} (C : Ok E X cc own nL ret t) (f : CF own idx y cy nLy ry 0) (fs : Cond.static y ∈ AW) (hM : ∀ (r : Unit) (h' : Hp), Fy = some (r, h') → Ctr E sh y cy nLy ry ty [] h (vv r) h') (ht : ty + 1 ≤ t) (hn : nLy ≤ 40) (hs8 : (st.map fun v => v.category).sum ≤ 8) (hd : decode cc pc = .ok (.invokestatic idx, 3)) (k : ∀ (r : Unit) (h' : Hp), Fy = some (r, h') → G E sh X val (pc + 3) L (st) h' (kk r h')) : G E sh X val pc L (st) h (bnd Fy kk) := g_callS [] st C f fs hM ht hn rfl rfl hs8 hd k
theorem g_cSi1 {Fy : Option (Int32 × Hp)} {kk : Int32 → Hp → Option (α × Hp)} {a1 : Value} {idx : Nat} {y : MethodName} {cy : ByteArray} {nLy ty : Nat} {ry : Option FieldType} (C : Ok E X cc own nL ret t) (f : CF own idx y cy nLy ry 1) (fs : Cond.static y ∈ AW) (hM : ∀ (r : Int32) (h' : Hp), Fy = some (r, h') → Ctr E sh y cy nLy ry ty [a1] h (vi r) h') (ht : ty + 1 ≤ t) (hn : nLy ≤ 40) (hs8 : (st.map fun v => v.category).sum ≤ 8) (hd : decode cc pc = .ok (.invokestatic idx, 3)) (k : ∀ (r : Int32) (h' : Hp), Fy = some (r, h') → G E sh X val (pc + 3) L (.int r :: st) h' (kk r h')) : G E sh X val pc L (a1 :: st) h (bnd Fy kk) := g_callS [a1] st C f fs hM ht hn rfl rfl hs8 hd k
theorem g_cSl1 {Fy : Option (Int64 × Hp)} {kk : Int64 → Hp → Option (α × Hp)} {a1 : Value} {idx : Nat} {y : MethodName} {cy : ByteArray} {nLy ty : Nat} {ry : Option FieldType} (C : Ok E X cc own nL ret t) (f : CF own idx y cy nLy ry 1) (fs : Cond.static y ∈ AW) (hM : ∀ (r : Int64) (h' : Hp), Fy = some (r, h') → Ctr E sh y cy nLy ry ty [a1] h (vl r) h') (ht : ty + 1 ≤ t) (hn : nLy ≤ 40) (hs8 : (st.map fun v => v.category).sum ≤ 8) (hd : decode cc pc = .ok (.invokestatic idx, 3)) (k : ∀ (r : Int64) (h' : Hp), Fy = some (r, h') → G E sh X val (pc + 3) L (.long r :: st) h' (kk r h')) : G E sh X val pc L (a1 :: st) h (bnd Fy kk) := g_callS [a1] st C f fs hM ht hn rfl rfl hs8 hd k
theorem g_cSv1 {Fy : Option (Unit × Hp)} {kk : Unit → Hp → Option (α × Hp)} {a1 : Value} {idx : Nat} {y : MethodName} {cy : ByteArray} {nLy ty : Nat} {ry : Option FieldType} (C : Ok E X cc own nL ret t) (f : CF own idx y cy nLy ry 1) (fs : Cond.static y ∈ AW) (hM : ∀ (r : Unit) (h' : Hp), Fy = some (r, h') → Ctr E sh y cy nLy ry ty [a1] h (vv r) h') (ht : ty + 1 ≤ t) (hn : nLy ≤ 40) (hs8 : (st.map fun v => v.category).sum ≤ 8) (hd : decode cc pc = .ok (.invokestatic idx, 3)) (k : ∀ (r : Unit) (h' : Hp), Fy = some (r, h') → G E sh X val (pc + 3) L (st) h' (kk r h')) : G E sh X val pc L (a1 :: st) h (bnd Fy kk) := g_callS [a1] st C f fs hM ht hn rfl rfl hs8 hd k
theorem g_cSi2 {Fy : Option (Int32 × Hp)} {kk : Int32 → Hp → Option (α × Hp)} {a1 a2 : Value} {idx : Nat} {y : MethodName} {cy : ByteArray} {nLy ty : Nat} {ry : Option FieldType} (C : Ok E X cc own nL ret t) (f : CF own idx y cy nLy ry 2) (fs : Cond.static y ∈ AW) (hM : ∀ (r : Int32) (h' : Hp), Fy = some (r, h') → Ctr E sh y cy nLy ry ty [a1, a2] h (vi r) h') (ht : ty + 1 ≤ t) (hn : nLy ≤ 40) (hs8 : (st.map fun v => v.category).sum ≤ 8) (hd : decode cc pc = .ok (.invokestatic idx, 3)) (k : ∀ (r : Int32) (h' : Hp), Fy = some (r, h') → G E sh X val (pc + 3) L (.int r :: st) h' (kk r h')) : G E sh X val pc L (a2 :: a1 :: st) h (bnd Fy kk) := g_callS [a1, a2] st C f fs hM ht hn rfl rfl hs8 hd k
theorem g_cSl2 {Fy : Option (Int64 × Hp)} {kk : Int64 → Hp → Option (α × Hp)} {a1 a2 : Value} {idx : Nat} {y : MethodName} {cy : ByteArray} {nLy ty : Nat} {ry : Option FieldType} (C : Ok E X cc own nL ret t) (f : CF own idx y cy nLy ry 2) (fs : Cond.static y ∈ AW) (hM : ∀ (r : Int64) (h' : Hp), Fy = some (r, h') → Ctr E sh y cy nLy ry ty [a1, a2] h (vl r) h') (ht : ty + 1 ≤ t) (hn : nLy ≤ 40) (hs8 : (st.map fun v => v.category).sum ≤ 8) (hd : decode cc pc = .ok (.invokestatic idx, 3)) (k : ∀ (r : Int64) (h' : Hp), Fy = some (r, h') → G E sh X val (pc + 3) L (.long r :: st) h' (kk r h')) : G E sh X val pc L (a2 :: a1 :: st) h (bnd Fy kk) := g_callS [a1, a2] st C f fs hM ht hn rfl rfl hs8 hd k
theorem g_cSv2 {Fy : Option (Unit × Hp)} {kk : Unit → Hp → Option (α × Hp)} {a1 a2 : Value} {idx : Nat} {y : MethodName} {cy : ByteArray} {nLy ty : Nat} {ry : Option FieldType} (C : Ok E X cc own nL ret t) (f : CF own idx y cy nLy ry 2) (fs : Cond.static y ∈ AW) (hM : ∀ (r : Unit) (h' : Hp), Fy = some (r, h') → Ctr E sh y cy nLy ry ty [a1, a2] h (vv r) h') (ht : ty + 1 ≤ t) (hn : nLy ≤ 40) (hs8 : (st.map fun v => v.category).sum ≤ 8) (hd : decode cc pc = .ok (.invokestatic idx, 3)) (k : ∀ (r : Unit) (h' : Hp), Fy = some (r, h') → G E sh X val (pc + 3) L (st) h' (kk r h')) : G E sh X val pc L (a2 :: a1 :: st) h (bnd Fy kk) := g_callS [a1, a2] st C f fs hM ht hn rfl rfl hs8 hd k
theorem g_cSi3 {Fy : Option (Int32 × Hp)} {kk : Int32 → Hp → Option (α × Hp)} {a1 a2 a3 : Value} {idx : Nat} {y : MethodName} {cy : ByteArray} {nLy ty : Nat} {ry : Option FieldType} (C : Ok E X cc own nL ret t) (f : CF own idx y cy nLy ry 3) (fs : Cond.static y ∈ AW) (hM : ∀ (r : Int32) (h' : Hp), Fy = some (r, h') → Ctr E sh y cy nLy ry ty [a1, a2, a3] h (vi r) h') (ht : ty + 1 ≤ t) (hn : nLy ≤ 40) (hs8 : (st.map fun v => v.category).sum ≤ 8) (hd : decode cc pc = .ok (.invokestatic idx, 3)) (k : ∀ (r : Int32) (h' : Hp), Fy = some (r, h') → G E sh X val (pc + 3) L (.int r :: st) h' (kk r h')) : G E sh X val pc L (a3 :: a2 :: a1 :: st) h (bnd Fy kk) := g_callS [a1, a2, a3] st C f fs hM ht hn rfl rfl hs8 hd k
theorem g_cSl3 {Fy : Option (Int64 × Hp)} {kk : Int64 → Hp → Option (α × Hp)} {a1 a2 a3 : Value} {idx : Nat} {y : MethodName} {cy : ByteArray} {nLy ty : Nat} {ry : Option FieldType} (C : Ok E X cc own nL ret t) (f : CF own idx y cy nLy ry 3) (fs : Cond.static y ∈ AW) (hM : ∀ (r : Int64) (h' : Hp), Fy = some (r, h') → Ctr E sh y cy nLy ry ty [a1, a2, a3] h (vl r) h') (ht : ty + 1 ≤ t) (hn : nLy ≤ 40) (hs8 : (st.map fun v => v.category).sum ≤ 8) (hd : decode cc pc = .ok (.invokestatic idx, 3)) (k : ∀ (r : Int64) (h' : Hp), Fy = some (r, h') → G E sh X val (pc + 3) L (.long r :: st) h' (kk r h')) : G E sh X val pc L (a3 :: a2 :: a1 :: st) h (bnd Fy kk) := g_callS [a1, a2, a3] st C f fs hM ht hn rfl rfl hs8 hd k
theorem g_cSv3 {Fy : Option (Unit × Hp)} {kk : Unit → Hp → Option (α × Hp)} {a1 a2 a3 : Value} {idx : Nat} {y : MethodName} {cy : ByteArray} {nLy ty : Nat} {ry : Option FieldType} (C : Ok E X cc own nL ret t) (f : CF own idx y cy nLy ry 3) (fs : Cond.static y ∈ AW) (hM : ∀ (r : Unit) (h' : Hp), Fy = some (r, h') → Ctr E sh y cy nLy ry ty [a1, a2, a3] h (vv r) h') (ht : ty + 1 ≤ t) (hn : nLy ≤ 40) (hs8 : (st.map fun v => v.category).sum ≤ 8) (hd : decode cc pc = .ok (.invokestatic idx, 3)) (k : ∀ (r : Unit) (h' : Hp), Fy = some (r, h') → G E sh X val (pc + 3) L (st) h' (kk r h')) : G E sh X val pc L (a3 :: a2 :: a1 :: st) h (bnd Fy kk) := g_callS [a1, a2, a3] st C f fs hM ht hn rfl rfl hs8 hd k
theorem g_cSi4 {Fy : Option (Int32 × Hp)} {kk : Int32 → Hp → Option (α × Hp)} {a1 a2 a3 a4 : Value} {idx : Nat} {y : MethodName} {cy : ByteArray} {nLy ty : Nat} {ry : Option FieldType} (C : Ok E X cc own nL ret t) (f : CF own idx y cy nLy ry 4) (fs : Cond.static y ∈ AW) (hM : ∀ (r : Int32) (h' : Hp), Fy = some (r, h') → Ctr E sh y cy nLy ry ty [a1, a2, a3, a4] h (vi r) h') (ht : ty + 1 ≤ t) (hn : nLy ≤ 40) (hs8 : (st.map fun v => v.category).sum ≤ 8) (hd : decode cc pc = .ok (.invokestatic idx, 3)) (k : ∀ (r : Int32) (h' : Hp), Fy = some (r, h') → G E sh X val (pc + 3) L (.int r :: st) h' (kk r h')) : G E sh X val pc L (a4 :: a3 :: a2 :: a1 :: st) h (bnd Fy kk) := g_callS [a1, a2, a3, a4] st C f fs hM ht hn rfl rfl hs8 hd k
theorem g_cSl4 {Fy : Option (Int64 × Hp)} {kk : Int64 → Hp → Option (α × Hp)} {a1 a2 a3 a4 : Value} {idx : Nat} {y : MethodName} {cy : ByteArray} {nLy ty : Nat} {ry : Option FieldType} (C : Ok E X cc own nL ret t) (f : CF own idx y cy nLy ry 4) (fs : Cond.static y ∈ AW) (hM : ∀ (r : Int64) (h' : Hp), Fy = some (r, h') → Ctr E sh y cy nLy ry ty [a1, a2, a3, a4] h (vl r) h') (ht : ty + 1 ≤ t) (hn : nLy ≤ 40) (hs8 : (st.map fun v => v.category).sum ≤ 8) (hd : decode cc pc = .ok (.invokestatic idx, 3)) (k : ∀ (r : Int64) (h' : Hp), Fy = some (r, h') → G E sh X val (pc + 3) L (.long r :: st) h' (kk r h')) : G E sh X val pc L (a4 :: a3 :: a2 :: a1 :: st) h (bnd Fy kk) := g_callS [a1, a2, a3, a4] st C f fs hM ht hn rfl rfl hs8 hd k
theorem g_cSv4 {Fy : Option (Unit × Hp)} {kk : Unit → Hp → Option (α × Hp)} {a1 a2 a3 a4 : Value} {idx : Nat} {y : MethodName} {cy : ByteArray} {nLy ty : Nat} {ry : Option FieldType} (C : Ok E X cc own nL ret t) (f : CF own idx y cy nLy ry 4) (fs : Cond.static y ∈ AW) (hM : ∀ (r : Unit) (h' : Hp), Fy = some (r, h') → Ctr E sh y cy nLy ry ty [a1, a2, a3, a4] h (vv r) h') (ht : ty + 1 ≤ t) (hn : nLy ≤ 40) (hs8 : (st.map fun v => v.category).sum ≤ 8) (hd : decode cc pc = .ok (.invokestatic idx, 3)) (k : ∀ (r : Unit) (h' : Hp), Fy = some (r, h') → G E sh X val (pc + 3) L (st) h' (kk r h')) : G E sh X val pc L (a4 :: a3 :: a2 :: a1 :: st) h (bnd Fy kk) := g_callS [a1, a2, a3, a4] st C f fs hM ht hn rfl rfl hs8 hd k
theorem g_cSi5 {Fy : Option (Int32 × Hp)} {kk : Int32 → Hp → Option (α × Hp)} {a1 a2 a3 a4 a5 : Value} {idx : Nat} {y : MethodName} {cy : ByteArray} {nLy ty : Nat} {ry : Option FieldType} (C : Ok E X cc own nL ret t) (f : CF own idx y cy nLy ry 5) (fs : Cond.static y ∈ AW) (hM : ∀ (r : Int32) (h' : Hp), Fy = some (r, h') → Ctr E sh y cy nLy ry ty [a1, a2, a3, a4, a5] h (vi r) h') (ht : ty + 1 ≤ t) (hn : nLy ≤ 40) (hs8 : (st.map fun v => v.category).sum ≤ 8) (hd : decode cc pc = .ok (.invokestatic idx, 3)) (k : ∀ (r : Int32) (h' : Hp), Fy = some (r, h') → G E sh X val (pc + 3) L (.int r :: st) h' (kk r h')) : G E sh X val pc L (a5 :: a4 :: a3 :: a2 :: a1 :: st) h (bnd Fy kk) := g_callS [a1, a2, a3, a4, a5] st C f fs hM ht hn rfl rfl hs8 hd k
theorem g_cSl5 {Fy : Option (Int64 × Hp)} {kk : Int64 → Hp → Option (α × Hp)} {a1 a2 a3 a4 a5 : Value} {idx : Nat} {y : MethodName} {cy : ByteArray} {nLy ty : Nat} {ry : Option FieldType} (C : Ok E X cc own nL ret t) (f : CF own idx y cy nLy ry 5) (fs : Cond.static y ∈ AW) (hM : ∀ (r : Int64) (h' : Hp), Fy = some (r, h') → Ctr E sh y cy nLy ry ty [a1, a2, a3, a4, a5] h (vl r) h') (ht : ty + 1 ≤ t) (hn : nLy ≤ 40) (hs8 : (st.map fun v => v.category).sum ≤ 8) (hd : decode cc pc = .ok (.invokestatic idx, 3)) (k : ∀ (r : Int64) (h' : Hp), Fy = some (r, h') → G E sh X val (pc + 3) L (.long r :: st) h' (kk r h')) : G E sh X val pc L (a5 :: a4 :: a3 :: a2 :: a1 :: st) h (bnd Fy kk) := g_callS [a1, a2, a3, a4, a5] st C f fs hM ht hn rfl rfl hs8 hd k
theorem g_cSv5 {Fy : Option (Unit × Hp)} {kk : Unit → Hp → Option (α × Hp)} {a1 a2 a3 a4 a5 : Value} {idx : Nat} {y : MethodName} {cy : ByteArray} {nLy ty : Nat} {ry : Option FieldType} (C : Ok E X cc own nL ret t) (f : CF own idx y cy nLy ry 5) (fs : Cond.static y ∈ AW) (hM : ∀ (r : Unit) (h' : Hp), Fy = some (r, h') → Ctr E sh y cy nLy ry ty [a1, a2, a3, a4, a5] h (vv r) h') (ht : ty + 1 ≤ t) (hn : nLy ≤ 40) (hs8 : (st.map fun v => v.category).sum ≤ 8) (hd : decode cc pc = .ok (.invokestatic idx, 3)) (k : ∀ (r : Unit) (h' : Hp), Fy = some (r, h') → G E sh X val (pc + 3) L (st) h' (kk r h')) : G E sh X val pc L (a5 :: a4 :: a3 :: a2 :: a1 :: st) h (bnd Fy kk) := g_callS [a1, a2, a3, a4, a5] st C f fs hM ht hn rfl rfl hs8 hd k
end GR
