set_option maxHeartbeats 4000000 in
set_option maxRecDepth 100000 in
theorem G_F_X7_against_J23 {E : Ev} {X : Cx} (C : Ok E X cX7_against RX7 5 (some .int) 1) (q2 : Nat) (x3 : Int32) (x4 : Int32) (x5 : Int32) (eq2 : isO shM q2 7 = true) (h6 : Hp) : G E shM X vi 23 [some (.ref (E.2.2.2 + q2)), some (.int x3), none, some (.int x4), some (.int x5)] [] h6 (F_X7_against_J23 q2 x3 x4 x5 h6) := by
  unfold F_X7_against_J23
  refine g_aload_n (i := 0) C dX7_against_23 rfl rfl ?_
  refine g_getA C f_X7_9 eq2 dX7_against_24 (fun q7 _ => ?_)
  refine g_iload_n (i := 1) C dX7_against_27 rfl rfl ?_
  refine g_iald C dX7_against_28 ?_
  refine g_bipush (v := -9) C dX7_against_29 (by decide) ?_
  refine g_icmp_ne C 36 dX7_against_31 (by decide) (fun hc14 => ?_) (fun hc14 => ?_)
  · refine g_iconst (v := 1) C dX7_against_34 (by decide) ?_
    exact g_ireti C dX7_against_35
  · refine g_iload (i := 4) C dX7_against_36 rfl ?_
    refine g_if_ge C 43 dX7_against_38 (by decide) (fun hc13 => ?_) (fun hc13 => ?_)
    · refine g_iload_n (i := 3) C dX7_against_43 rfl rfl ?_
      refine g_if_lt C 70 dX7_against_44 (by decide) (fun hc12 => ?_) (fun hc12 => ?_)
      · refine g_iconst (v := 3) C dX7_against_70 (by decide) ?_
        refine g_goto C 75 dX7_against_71 (by decide) ?_
        exact g_ireti C dX7_against_75
      · refine g_iload_n (i := 3) C dX7_against_47 rfl rfl ?_
        refine g_aload_n (i := 0) C dX7_against_48 rfl rfl ?_
        refine g_getA C f_X7_13 eq2 dX7_against_49 (fun q8 _ => ?_)
        refine g_iload_n (i := 1) C dX7_against_52 rfl rfl ?_
        refine g_iald C dX7_against_53 ?_
        refine g_icmp_gt C 70 dX7_against_54 (by decide) (fun hc11 => ?_) (fun hc11 => ?_)
        · refine g_iconst (v := 3) C dX7_against_70 (by decide) ?_
          refine g_goto C 75 dX7_against_71 (by decide) ?_
          exact g_ireti C dX7_against_75
        · refine g_iload (i := 4) C dX7_against_57 rfl ?_
          refine g_aload_n (i := 0) C dX7_against_59 rfl rfl ?_
          refine g_getA C f_X7_13 eq2 dX7_against_60 (fun q9 _ => ?_)
          refine g_iload_n (i := 1) C dX7_against_63 rfl rfl ?_
          refine g_iald C dX7_against_64 ?_
          refine g_iload_n (i := 3) C dX7_against_65 rfl rfl ?_
          refine g_isub C dX7_against_66 ?_
          refine g_icmp_le C 74 dX7_against_67 (by decide) (fun hc10 => ?_) (fun hc10 => ?_)
          · refine g_iconst (v := 0) C dX7_against_74 (by decide) ?_
            exact g_ireti C dX7_against_75
          · refine g_iconst (v := 3) C dX7_against_70 (by decide) ?_
            refine g_goto C 75 dX7_against_71 (by decide) ?_
            exact g_ireti C dX7_against_75
    · refine g_iconst (v := 4) C dX7_against_41 (by decide) ?_
      exact g_ireti C dX7_against_42
set_option maxHeartbeats 4000000 in
set_option maxRecDepth 100000 in
theorem c_X7_against (E : Ev) (o : Nat) (p0 : Int32) (p1 : Int32) (p2 : Int32) (p3 : Int32) (eo : isO shM o 7 = true) (h : Hp) {r : Int32} {h' : Hp} (e : F_X7_against o p0 p1 p2 p3 h = some (r, h')) : Ctr E shM yX7_against cX7_against 5 (some .int) 1 [.ref (E.2.2.2 + o), .int p0, .int p1, .int p2, .int p3] h (vi r) h' := by
  refine Ctr.ofG (val := vi) e (by decide) (Nat.le_of_ble_eq_true rfl) [some (.ref (E.2.2.2 + o)), some (.int p0), some (.int p1), some (.int p2), some (.int p3)] rfl (fun X C => ?_)
  unfold F_X7_against
  refine g_aload_n (i := 0) C dX7_against_0 rfl rfl ?_
  refine g_getA C f_X7_9 eo dX7_against_1 (fun q1 _ => ?_)
  refine g_iload_n (i := 1) C dX7_against_4 rfl rfl ?_
  refine g_iald C dX7_against_5 ?_
  refine g_bipush (v := -9) C dX7_against_6 (by decide) ?_
  refine g_icmp_eq C 23 dX7_against_8 (by decide) (fun hc17 => ?_) (fun hc17 => ?_)
  · refine g_drop (i := 2) [some (.ref (E.2.2.2 + o)), some (.int p0), none, some (.int p2), some (.int p3)] rfl ?_
    exact G_F_X7_against_J23 C o p0 p2 p3 eo h
  · refine g_aload_n (i := 0) C dX7_against_11 rfl rfl ?_
    refine g_getA C f_X7_9 eo dX7_against_12 (fun q15 _ => ?_)
    refine g_iload_n (i := 1) C dX7_against_15 rfl rfl ?_
    refine g_iald C dX7_against_16 ?_
    refine g_iload_n (i := 2) C dX7_against_17 rfl rfl ?_
    refine g_icmp_eq C 23 dX7_against_18 (by decide) (fun hc16 => ?_) (fun hc16 => ?_)
    · refine g_drop (i := 2) [some (.ref (E.2.2.2 + o)), some (.int p0), none, some (.int p2), some (.int p3)] rfl ?_
      exact G_F_X7_against_J23 C o p0 p2 p3 eo h
    · refine g_iconst (v := 2) C dX7_against_21 (by decide) ?_
      exact g_ireti C dX7_against_22
set_option maxHeartbeats 4000000 in
set_option maxRecDepth 100000 in
theorem c_X7_isCheese (E : Ev) (o : Nat) (p0 : Int32) (eo : isO shM o 7 = true) (h : Hp) {r : Int32} {h' : Hp} (e : F_X7_isCheese o p0 h = some (r, h')) : Ctr E shM yX7_isCheese cX7_isCheese 2 (some .boolean) 1 [.ref (E.2.2.2 + o), .int p0] h (vi r) h' := by
  refine Ctr.ofG (val := vi) e (by decide) (Nat.le_of_ble_eq_true rfl) [some (.ref (E.2.2.2 + o)), some (.int p0)] rfl (fun X C => ?_)
  unfold F_X7_isCheese
  refine g_iload_n (i := 1) C dX7_isCheese_0 rfl rfl ?_
  refine g_if_lt C 16 dX7_isCheese_1 (by decide) (fun hc2 => ?_) (fun hc2 => ?_)
  · refine g_iconst (v := 0) C dX7_isCheese_16 (by decide) ?_
    exact g_iretz C rfl dX7_isCheese_17
  · refine g_iload_n (i := 1) C dX7_isCheese_4 rfl rfl ?_
    refine g_aload_n (i := 0) C dX7_isCheese_5 rfl rfl ?_
    refine g_getI C f_X7_83 eo dX7_isCheese_6 ?_
    refine g_icmp_ge C 16 dX7_isCheese_9 (by decide) (fun hc1 => ?_) (fun hc1 => ?_)
    · refine g_iconst (v := 0) C dX7_isCheese_16 (by decide) ?_
      exact g_iretz C rfl dX7_isCheese_17
    · refine g_iconst (v := 1) C dX7_isCheese_12 (by decide) ?_
      refine g_goto C 17 dX7_isCheese_13 (by decide) ?_
      exact g_iretz C rfl dX7_isCheese_17
set_option maxHeartbeats 4000000 in
set_option maxRecDepth 100000 in
theorem c_X7_isTurned (E : Ev) (o : Nat) (p0 : Int32) (p1 : Int32) (eo : isO shM o 7 = true) (h : Hp) {r : Int32} {h' : Hp} (e : F_X7_isTurned o p0 p1 h = some (r, h')) : Ctr E shM yX7_isTurned cX7_isTurned 3 (some .boolean) 1 [.ref (E.2.2.2 + o), .int p0, .int p1] h (vi r) h' := by
  refine Ctr.ofG (val := vi) e (by decide) (Nat.le_of_ble_eq_true rfl) [some (.ref (E.2.2.2 + o)), some (.int p0), some (.int p1)] rfl (fun X C => ?_)
  unfold F_X7_isTurned
  refine g_aload_n (i := 0) C dX7_isTurned_0 rfl rfl ?_
  refine g_getA C f_X7_28 eo dX7_isTurned_1 (fun q1 _ => ?_)
  refine g_iload_n (i := 1) C dX7_isTurned_4 rfl rfl ?_
  refine g_iald C dX7_isTurned_5 ?_
  refine g_bipush (v := -9) C dX7_isTurned_6 (by decide) ?_
  refine g_icmp_eq C 25 dX7_isTurned_8 (by decide) (fun hc4 => ?_) (fun hc4 => ?_)
  · refine g_iconst (v := 0) C dX7_isTurned_25 (by decide) ?_
    exact g_iretz C rfl dX7_isTurned_26
  · refine g_iload_n (i := 2) C dX7_isTurned_11 rfl rfl ?_
    refine g_aload_n (i := 0) C dX7_isTurned_12 rfl rfl ?_
    refine g_getA C f_X7_28 eo dX7_isTurned_13 (fun q2 _ => ?_)
    refine g_iload_n (i := 1) C dX7_isTurned_16 rfl rfl ?_
    refine g_iald C dX7_isTurned_17 ?_
    refine g_icmp_lt C 25 dX7_isTurned_18 (by decide) (fun hc3 => ?_) (fun hc3 => ?_)
    · refine g_iconst (v := 0) C dX7_isTurned_25 (by decide) ?_
      exact g_iretz C rfl dX7_isTurned_26
    · refine g_iconst (v := 1) C dX7_isTurned_21 (by decide) ?_
      refine g_goto C 26 dX7_isTurned_22 (by decide) ?_
      exact g_iretz C rfl dX7_isTurned_26
set_option maxHeartbeats 4000000 in
set_option maxRecDepth 100000 in
theorem G_F_X7_whereOf_L14 {E : Ev} {X : Cx} (C : Ok E X cX7_whereOf RX7 6 (some .int) 1) (q3 : Nat) (x4 : Int32) (x5 : Int32) (eq3 : isO shM q3 7 = true) : ∀ (N : Nat) (x6 : Int32) (x7 : Int32) (x8 : Int32) (h9 : Hp), G E shM X vi 14 [some (.ref (E.2.2.2 + q3)), some (.int x4), some (.int x5), some (.int x6), some (.int x7), some (.int x8)] [] h9 (F_X7_whereOf_L14 q3 x4 x5 N x6 x7 x8 h9) := by
  intro N
  induction N with
  | zero =>
    intro _ _ _ _
    exact g_none
  | succ N ih =>
    intro x6 x7 x8 h9
    rw [F_X7_whereOf_L14]
    refine g_iload (i := 5) C dX7_whereOf_14 rfl ?_
    refine g_aload_n (i := 0) C dX7_whereOf_16 rfl rfl ?_
    refine g_getI C f_X7_125 eq3 dX7_whereOf_17 ?_
    refine g_icmp_ge C 80 dX7_whereOf_20 (by decide) (fun hc24 => ?_) (fun hc24 => ?_)
    · refine g_iload_n (i := 3) C dX7_whereOf_80 rfl rfl ?_
      exact g_ireti C dX7_whereOf_81
    · refine g_aload_n (i := 0) C dX7_whereOf_23 rfl rfl ?_
      refine g_getA C f_X7_40 eq3 dX7_whereOf_24 (fun q10 _ => ?_)
      refine g_iload (i := 5) C dX7_whereOf_27 rfl ?_
      refine g_iald C dX7_whereOf_29 ?_
      refine g_iload_n (i := 1) C dX7_whereOf_30 rfl rfl ?_
      refine g_icmp_ne C 74 dX7_whereOf_31 (by decide) (fun hc23 => ?_) (fun hc23 => ?_)
      · refine g_aload_n (i := 0) C dX7_whereOf_34 rfl rfl ?_
        refine g_getA C f_X7_43 eq3 dX7_whereOf_35 (fun q12 _ => ?_)
        refine g_iload (i := 5) C dX7_whereOf_38 rfl ?_
        refine g_iald C dX7_whereOf_40 ?_
        refine g_iload_n (i := 2) C dX7_whereOf_41 rfl rfl ?_
        refine g_icmp_gt C 74 dX7_whereOf_42 (by decide) (fun hc22 => ?_) (fun hc22 => ?_)
        · refine g_iinc (i := 5) (w := 1) C (fun yy => [some (.ref (E.2.2.2 + q3)), some (.int x4), some (.int x5), some (.int x6), some (.int x7), some (.int yy)]) dX7_whereOf_74 rfl (by decide) rfl (by decide) rfl (fun _ => rfl) (fun x13 => ?_)
          refine g_goto C 14 dX7_whereOf_77 (by decide) ?_
          exact ih x6 x7 x13 h9
        · refine g_aload_n (i := 0) C dX7_whereOf_45 rfl rfl ?_
          refine g_getA C f_X7_43 eq3 dX7_whereOf_46 (fun q14 _ => ?_)
          refine g_iload (i := 5) C dX7_whereOf_49 rfl ?_
          refine g_iald C dX7_whereOf_51 ?_
          refine g_iload (i := 4) C dX7_whereOf_52 rfl ?_
          refine g_icmp_lt C 74 dX7_whereOf_54 (by decide) (fun hc21 => ?_) (fun hc21 => ?_)
          · refine g_iinc (i := 5) (w := 1) C (fun yy => [some (.ref (E.2.2.2 + q3)), some (.int x4), some (.int x5), some (.int x6), some (.int x7), some (.int yy)]) dX7_whereOf_74 rfl (by decide) rfl (by decide) rfl (fun _ => rfl) (fun x15 => ?_)
            refine g_goto C 14 dX7_whereOf_77 (by decide) ?_
            exact ih x6 x7 x15 h9
          · refine g_aload_n (i := 0) C dX7_whereOf_57 rfl rfl ?_
            refine g_getA C f_X7_43 eq3 dX7_whereOf_58 (fun q16 _ => ?_)
            refine g_iload (i := 5) C dX7_whereOf_61 rfl ?_
            refine g_iald C dX7_whereOf_63 ?_
            refine g_topi (fun x17 => ?_)
            refine g_istore (i := 4) C [some (.ref (E.2.2.2 + q3)), some (.int x4), some (.int x5), some (.int x6), some (.int x17), some (.int x8)] dX7_whereOf_64 (by decide) rfl rfl ?_
            refine g_aload_n (i := 0) C dX7_whereOf_66 rfl rfl ?_
            refine g_getA C f_X7_46 eq3 dX7_whereOf_67 (fun q18 _ => ?_)
            refine g_iload (i := 5) C dX7_whereOf_70 rfl ?_
            refine g_iald C dX7_whereOf_72 ?_
            refine g_topi (fun x19 => ?_)
            refine g_istore_n (i := 3) C [some (.ref (E.2.2.2 + q3)), some (.int x4), some (.int x5), some (.int x19), some (.int x17), some (.int x8)] dX7_whereOf_73 rfl (by decide) rfl rfl ?_
            refine g_iinc (i := 5) (w := 1) C (fun yy => [some (.ref (E.2.2.2 + q3)), some (.int x4), some (.int x5), some (.int x19), some (.int x17), some (.int yy)]) dX7_whereOf_74 rfl (by decide) rfl (by decide) rfl (fun _ => rfl) (fun x20 => ?_)
            refine g_goto C 14 dX7_whereOf_77 (by decide) ?_
            exact ih x19 x17 x20 h9
      · refine g_iinc (i := 5) (w := 1) C (fun yy => [some (.ref (E.2.2.2 + q3)), some (.int x4), some (.int x5), some (.int x6), some (.int x7), some (.int yy)]) dX7_whereOf_74 rfl (by decide) rfl (by decide) rfl (fun _ => rfl) (fun x11 => ?_)
        refine g_goto C 14 dX7_whereOf_77 (by decide) ?_
        exact ih x6 x7 x11 h9
set_option maxHeartbeats 4000000 in
set_option maxRecDepth 100000 in
theorem c_X7_whereOf (E : Ev) (o : Nat) (p0 : Int32) (p1 : Int32) (eo : isO shM o 7 = true) (h : Hp) {r : Int32} {h' : Hp} (e : F_X7_whereOf o p0 p1 h = some (r, h')) : Ctr E shM yX7_whereOf cX7_whereOf 6 (some .int) 1 [.ref (E.2.2.2 + o), .int p0, .int p1] h (vi r) h' := by
  refine Ctr.ofG (val := vi) e (by decide) (Nat.le_of_ble_eq_true rfl) [some (.ref (E.2.2.2 + o)), some (.int p0), some (.int p1), none, none, none] rfl (fun X C => ?_)
  unfold F_X7_whereOf
  refine g_aload_n (i := 0) C dX7_whereOf_0 rfl rfl ?_
  refine g_getA C f_X7_22 eo dX7_whereOf_1 (fun q1 _ => ?_)
  refine g_iload_n (i := 1) C dX7_whereOf_4 rfl rfl ?_
  refine g_iald C dX7_whereOf_5 ?_
  refine g_topi (fun x2 => ?_)
  refine g_istore_n (i := 3) C [some (.ref (E.2.2.2 + o)), some (.int p0), some (.int p1), some (.int x2), none, none] dX7_whereOf_6 rfl (by decide) rfl rfl ?_
  refine g_bipush (v := -9) C dX7_whereOf_7 (by decide) ?_
  refine g_istore (i := 4) C [some (.ref (E.2.2.2 + o)), some (.int p0), some (.int p1), some (.int x2), some (.int (-9 : Int32)), none] dX7_whereOf_9 (by decide) rfl rfl ?_
  refine g_iconst (v := 0) C dX7_whereOf_11 (by decide) ?_
  refine g_istore (i := 5) C [some (.ref (E.2.2.2 + o)), some (.int p0), some (.int p1), some (.int x2), some (.int (-9 : Int32)), some (.int (0 : Int32))] dX7_whereOf_12 (by decide) rfl rfl ?_
  exact G_F_X7_whereOf_L14 C o p0 p1 eo FU x2 (-9 : Int32) (0 : Int32) h
set_option maxHeartbeats 4000000 in
set_option maxRecDepth 100000 in
theorem G_F_X7_comes_J36 {E : Ev} {X : Cx} (C : Ok E X cX7_comes RX7 5 (some .int) 2) (x6 : Int32) (y7 : Int32) (h8 : Hp) : G E shM X vi 36 [none, none, none, some (.int x6), none] [.int y7] h8 (F_X7_comes_J36 x6 y7 h8) := by
  unfold F_X7_comes_J36
  refine g_istore (i := 4) C [none, none, none, some (.int x6), some (.int y7)] dX7_comes_36 (by decide) rfl rfl ?_
  refine g_iload (i := 4) C dX7_comes_38 rfl ?_
  refine g_iconst (v := 2) C dX7_comes_40 (by decide) ?_
  refine g_iload_n (i := 3) C dX7_comes_41 rfl rfl ?_
  refine g_if_ge C 50 dX7_comes_42 (by decide) (fun hc9 => ?_) (fun hc9 => ?_)
  · refine g_iload_n (i := 3) C dX7_comes_50 rfl rfl ?_
    refine g_imul C dX7_comes_51 ?_
    refine g_isub C dX7_comes_52 ?_
    exact g_ireti C dX7_comes_53
  · refine g_iload_n (i := 3) C dX7_comes_45 rfl rfl ?_
    refine g_ineg C dX7_comes_46 ?_
    refine g_goto C 51 dX7_comes_47 (by decide) ?_
    refine g_imul C dX7_comes_51 ?_
    refine g_isub C dX7_comes_52 ?_
    exact g_ireti C dX7_comes_53
set_option maxHeartbeats 4000000 in
set_option maxRecDepth 100000 in
theorem c_X7_comes (E : Ev) (o : Nat) (p0 : Int32) (p1 : Int32) (eo : isO shM o 7 = true) (h : Hp) {r : Int32} {h' : Hp} (e : F_X7_comes o p0 p1 h = some (r, h')) : Ctr E shM yX7_comes cX7_comes 5 (some .int) 2 [.ref (E.2.2.2 + o), .int p0, .int p1] h (vi r) h' := by
  refine Ctr.ofG (val := vi) e (by decide) (Nat.le_of_ble_eq_true rfl) [some (.ref (E.2.2.2 + o)), some (.int p0), some (.int p1), none, none] rfl (fun X C => ?_)
  unfold F_X7_comes
  refine g_aload_n (i := 0) C dX7_comes_0 rfl rfl ?_
  refine g_iload_n (i := 1) C dX7_comes_1 rfl rfl ?_
  refine g_iload_n (i := 2) C dX7_comes_2 rfl rfl ?_
  refine g_cVi2 C cf_X7_157 cv_X7_whereOf eo (fun r h' e => c_X7_whereOf E o p0 p1 eo h e) (by decide) (by decide) (Nat.le_of_ble_eq_true rfl) dX7_comes_3 (fun r2 h1 _ => ?_)
  refine g_aload_n (i := 0) C dX7_comes_6 rfl rfl ?_
  refine g_getA C f_X7_31 eo dX7_comes_7 (fun q3 _ => ?_)
  refine g_iload_n (i := 2) C dX7_comes_10 rfl rfl ?_
  refine g_iald C dX7_comes_11 ?_
  refine g_isub C dX7_comes_12 ?_
  refine g_topi (fun x4 => ?_)
  refine g_istore_n (i := 3) C [some (.ref (E.2.2.2 + o)), some (.int p0), some (.int p1), some (.int x4), none] dX7_comes_13 rfl (by decide) rfl rfl ?_
  refine g_aload_n (i := 0) C dX7_comes_14 rfl rfl ?_
  refine g_getI C f_X7_161 eo dX7_comes_15 ?_
  refine g_iload_n (i := 2) C dX7_comes_18 rfl rfl ?_
  refine g_ishr C dX7_comes_19 ?_
  refine g_iconst (v := 1) C dX7_comes_20 (by decide) ?_
  refine g_iand C dX7_comes_21 ?_
  refine g_iconst (v := 1) C dX7_comes_22 (by decide) ?_
  refine g_icmp_ne C 30 dX7_comes_23 (by decide) (fun hc10 => ?_) (fun hc10 => ?_)
  · refine g_iconst (v := 1) C dX7_comes_26 (by decide) ?_
    refine g_goto C 36 dX7_comes_27 (by decide) ?_
    refine g_drop (i := 0) [none, some (.int p0), some (.int p1), some (.int x4), none] rfl ?_
    refine g_drop (i := 1) [none, none, some (.int p1), some (.int x4), none] rfl ?_
    refine g_drop (i := 2) [none, none, none, some (.int x4), none] rfl ?_
    exact G_F_X7_comes_J36 C x4 (1 : Int32) h1
  · refine g_aload_n (i := 0) C dX7_comes_30 rfl rfl ?_
    refine g_getA C f_X7_34 eo dX7_comes_31 (fun q5 _ => ?_)
    refine g_iload_n (i := 2) C dX7_comes_34 rfl rfl ?_
    refine g_iald C dX7_comes_35 ?_
    refine g_drop (i := 0) [none, some (.int p0), some (.int p1), some (.int x4), none] rfl ?_
    refine g_drop (i := 1) [none, none, some (.int p1), some (.int x4), none] rfl ?_
    refine g_drop (i := 2) [none, none, none, some (.int x4), none] rfl ?_
    exact G_F_X7_comes_J36 C x4 (h1.1 q5 (p1).toNatClampNeg) h1
set_option maxHeartbeats 4000000 in
set_option maxRecDepth 100000 in
theorem G_F_X7_heardBy_J91 {E : Ev} {X : Cx} (C : Ok E X cX7_heardBy RX7 6 (some .int) 3) (k47 : Int32 → Int32 → Int32 → Hp → Option (Int32 × Hp)) (q11 : Nat) (x12 : Int32) (x13 : Int32) (x27 : Int32) (x28 : Int32) (y29 : Int32) (y30 : Int32) (hk47 : ∀ (z3 : Int32) (z4 : Int32) (z5 : Int32) (hh : Hp), G E shM X vi 47 [some (.ref (E.2.2.2 + q11)), some (.int x12), some (.int x13), some (.int z3), some (.int z4), some (.int z5)] [] hh (k47 z3 z4 z5 hh)) (eq11 : isO shM q11 7 = true) (h31 : Hp) : G E shM X vi 91 [some (.ref (E.2.2.2 + q11)), some (.int x12), some (.int x13), none, some (.int x27), some (.int x28)] [.int y29, .int y30] h31 (F_X7_heardBy_J91 k47 q11 x12 x13 x27 x28 y29 y30 h31) := by
  unfold F_X7_heardBy_J91
  refine g_ior C dX7_heardBy_91 ?_
  refine g_topi (fun x32 => ?_)
  refine g_istore_n (i := 3) C [some (.ref (E.2.2.2 + q11)), some (.int x12), some (.int x13), some (.int x32), some (.int x27), some (.int x28)] dX7_heardBy_92 rfl (by decide) rfl rfl ?_
  refine g_aload_n (i := 0) C dX7_heardBy_93 rfl rfl ?_
  refine g_getA C f_X7_19 eq11 dX7_heardBy_94 (fun q33 _ => ?_)
  refine g_iload_n (i := 1) C dX7_heardBy_97 rfl rfl ?_
  refine g_iald C dX7_heardBy_98 ?_
  refine g_iconst (v := 2) C dX7_heardBy_99 (by decide) ?_
  refine g_icmp_ne C 112 dX7_heardBy_100 (by decide) (fun hc38 => ?_) (fun hc38 => ?_)
  · refine g_iload (i := 4) C dX7_heardBy_103 rfl ?_
    refine g_if_ne C 112 dX7_heardBy_105 (by decide) (fun hc37 => ?_) (fun hc37 => ?_)
    · refine g_iconst (v := 1) C dX7_heardBy_108 (by decide) ?_
      refine g_goto C 113 dX7_heardBy_109 (by decide) ?_
      refine g_istore (i := 4) C [some (.ref (E.2.2.2 + q11)), some (.int x12), some (.int x13), some (.int x32), some (.int (1 : Int32)), some (.int x28)] dX7_heardBy_113 (by decide) rfl rfl ?_
      refine g_iinc (i := 5) (w := 1) C (fun yy => [some (.ref (E.2.2.2 + q11)), some (.int x12), some (.int x13), some (.int x32), some (.int (1 : Int32)), some (.int yy)]) dX7_heardBy_115 rfl (by decide) rfl (by decide) rfl (fun _ => rfl) (fun x36 => ?_)
      refine g_goto C 47 dX7_heardBy_118 (by decide) ?_
      exact hk47 x32 (1 : Int32) x36 h31
    · refine g_iconst (v := 0) C dX7_heardBy_112 (by decide) ?_
      refine g_istore (i := 4) C [some (.ref (E.2.2.2 + q11)), some (.int x12), some (.int x13), some (.int x32), some (.int (0 : Int32)), some (.int x28)] dX7_heardBy_113 (by decide) rfl rfl ?_
      refine g_iinc (i := 5) (w := 1) C (fun yy => [some (.ref (E.2.2.2 + q11)), some (.int x12), some (.int x13), some (.int x32), some (.int (0 : Int32)), some (.int yy)]) dX7_heardBy_115 rfl (by decide) rfl (by decide) rfl (fun _ => rfl) (fun x35 => ?_)
      refine g_goto C 47 dX7_heardBy_118 (by decide) ?_
      exact hk47 x32 (0 : Int32) x35 h31
  · refine g_iconst (v := 0) C dX7_heardBy_112 (by decide) ?_
    refine g_istore (i := 4) C [some (.ref (E.2.2.2 + q11)), some (.int x12), some (.int x13), some (.int x32), some (.int (0 : Int32)), some (.int x28)] dX7_heardBy_113 (by decide) rfl rfl ?_
    refine g_iinc (i := 5) (w := 1) C (fun yy => [some (.ref (E.2.2.2 + q11)), some (.int x12), some (.int x13), some (.int x32), some (.int (0 : Int32)), some (.int yy)]) dX7_heardBy_115 rfl (by decide) rfl (by decide) rfl (fun _ => rfl) (fun x34 => ?_)
    refine g_goto C 47 dX7_heardBy_118 (by decide) ?_
    exact hk47 x32 (0 : Int32) x34 h31
set_option maxHeartbeats 4000000 in
set_option maxRecDepth 100000 in
theorem G_F_X7_heardBy_L47 {E : Ev} {X : Cx} (C : Ok E X cX7_heardBy RX7 6 (some .int) 3) (q11 : Nat) (x12 : Int32) (x13 : Int32) (eq11 : isO shM q11 7 = true) : ∀ (N : Nat) (x14 : Int32) (x15 : Int32) (x16 : Int32) (h17 : Hp), G E shM X vi 47 [some (.ref (E.2.2.2 + q11)), some (.int x12), some (.int x13), some (.int x14), some (.int x15), some (.int x16)] [] h17 (F_X7_heardBy_L47 q11 x12 x13 N x14 x15 x16 h17) := by
  intro N
  induction N with
  | zero =>
    intro _ _ _ _
    exact g_none
  | succ N ih =>
    intro x14 x15 x16 h17
    rw [F_X7_heardBy_L47]
    refine g_iload (i := 5) C dX7_heardBy_47 rfl ?_
    refine g_aload_n (i := 0) C dX7_heardBy_49 rfl rfl ?_
    refine g_getI C f_X7_89 eq11 dX7_heardBy_50 ?_
    refine g_icmp_ge C 121 dX7_heardBy_53 (by decide) (fun hc42 => ?_) (fun hc42 => ?_)
    · refine g_iload_n (i := 3) C dX7_heardBy_121 rfl rfl ?_
      exact g_ireti C dX7_heardBy_122
    · refine g_aload_n (i := 0) C dX7_heardBy_56 rfl rfl ?_
      refine g_iload_n (i := 1) C dX7_heardBy_57 rfl rfl ?_
      refine g_iload (i := 5) C dX7_heardBy_58 rfl ?_
      refine g_cVi2 C cf_X7_164 cv_X7_isTurned eq11 (fun r h' e => c_X7_isTurned E q11 x12 x16 eq11 h17 e) (by decide) (by decide) (Nat.le_of_ble_eq_true rfl) dX7_heardBy_60 (fun r19 h18 _ => ?_)
      refine g_if_ne C 115 dX7_heardBy_63 (by decide) (fun hc41 => ?_) (fun hc41 => ?_)
      · refine g_aload_n (i := 0) C dX7_heardBy_66 rfl rfl ?_
        refine g_iload_n (i := 1) C dX7_heardBy_67 rfl rfl ?_
        refine g_iload (i := 5) C dX7_heardBy_68 rfl ?_
        refine g_cVi2 C cf_X7_167 cv_X7_comes eq11 (fun r h' e => c_X7_comes E q11 x12 x16 eq11 h18 e) (by decide) (by decide) (Nat.le_of_ble_eq_true rfl) dX7_heardBy_70 (fun r22 h21 _ => ?_)
        refine g_iload_n (i := 2) C dX7_heardBy_73 rfl rfl ?_
        refine g_icmp_lt C 115 dX7_heardBy_74 (by decide) (fun hc40 => ?_) (fun hc40 => ?_)
        · refine g_iinc (i := 5) (w := 1) C (fun yy => [some (.ref (E.2.2.2 + q11)), some (.int x12), some (.int x13), some (.int x14), some (.int x15), some (.int yy)]) dX7_heardBy_115 rfl (by decide) rfl (by decide) rfl (fun _ => rfl) (fun x23 => ?_)
          refine g_goto C 47 dX7_heardBy_118 (by decide) ?_
          exact ih x14 x15 x23 h21
        · refine g_iload_n (i := 3) C dX7_heardBy_77 rfl rfl ?_
          refine g_iload (i := 4) C dX7_heardBy_78 rfl ?_
          refine g_if_eq C 87 dX7_heardBy_80 (by decide) (fun hc39 => ?_) (fun hc39 => ?_)
          · refine g_iconst (v := 1) C dX7_heardBy_87 (by decide) ?_
            refine g_iload (i := 5) C dX7_heardBy_88 rfl ?_
            refine g_ishl C dX7_heardBy_90 ?_
            refine g_drop (i := 3) [some (.ref (E.2.2.2 + q11)), some (.int x12), some (.int x13), none, some (.int x15), some (.int x16)] rfl ?_
            exact G_F_X7_heardBy_J91 C (F_X7_heardBy_L47 q11 x12 x13 N) q11 x12 x13 x15 x16 ((1 : Int32) <<< (x16 &&& 31)) x14 (ih) eq11 h21
          · refine g_iconst (v := 0) C dX7_heardBy_83 (by decide) ?_
            refine g_goto C 91 dX7_heardBy_84 (by decide) ?_
            refine g_drop (i := 3) [some (.ref (E.2.2.2 + q11)), some (.int x12), some (.int x13), none, some (.int x15), some (.int x16)] rfl ?_
            exact G_F_X7_heardBy_J91 C (F_X7_heardBy_L47 q11 x12 x13 N) q11 x12 x13 x15 x16 (0 : Int32) x14 (ih) eq11 h21
      · refine g_iinc (i := 5) (w := 1) C (fun yy => [some (.ref (E.2.2.2 + q11)), some (.int x12), some (.int x13), some (.int x14), some (.int x15), some (.int yy)]) dX7_heardBy_115 rfl (by decide) rfl (by decide) rfl (fun _ => rfl) (fun x20 => ?_)
        refine g_goto C 47 dX7_heardBy_118 (by decide) ?_
        exact ih x14 x15 x20 h18
set_option maxHeartbeats 4000000 in
set_option maxRecDepth 100000 in
theorem G_F_X7_heardBy_J38 {E : Ev} {X : Cx} (C : Ok E X cX7_heardBy RX7 6 (some .int) 3) (q7 : Nat) (x8 : Int32) (y9 : Int32) (eq7 : isO shM q7 7 = true) (h10 : Hp) : G E shM X vi 38 [some (.ref (E.2.2.2 + q7)), some (.int x8), none, none, none, none] [.int y9] h10 (F_X7_heardBy_J38 q7 x8 y9 h10) := by
  unfold F_X7_heardBy_J38
  refine g_istore_n (i := 2) C [some (.ref (E.2.2.2 + q7)), some (.int x8), some (.int y9), none, none, none] dX7_heardBy_38 rfl (by decide) rfl rfl ?_
  refine g_iconst (v := 0) C dX7_heardBy_39 (by decide) ?_
  refine g_istore_n (i := 3) C [some (.ref (E.2.2.2 + q7)), some (.int x8), some (.int y9), some (.int (0 : Int32)), none, none] dX7_heardBy_40 rfl (by decide) rfl rfl ?_
  refine g_iconst (v := 0) C dX7_heardBy_41 (by decide) ?_
  refine g_istore (i := 4) C [some (.ref (E.2.2.2 + q7)), some (.int x8), some (.int y9), some (.int (0 : Int32)), some (.int (0 : Int32)), none] dX7_heardBy_42 (by decide) rfl rfl ?_
  refine g_iconst (v := 0) C dX7_heardBy_44 (by decide) ?_
  refine g_istore (i := 5) C [some (.ref (E.2.2.2 + q7)), some (.int x8), some (.int y9), some (.int (0 : Int32)), some (.int (0 : Int32)), some (.int (0 : Int32))] dX7_heardBy_45 (by decide) rfl rfl ?_
  exact G_F_X7_heardBy_L47 C q7 x8 y9 eq7 FU (0 : Int32) (0 : Int32) (0 : Int32) h10
set_option maxHeartbeats 4000000 in
set_option maxRecDepth 100000 in
theorem G_F_X7_heardBy_J27 {E : Ev} {X : Cx} (C : Ok E X cX7_heardBy RX7 6 (some .int) 3) (q3 : Nat) (x4 : Int32) (y5 : Int32) (eq3 : isO shM q3 7 = true) (h6 : Hp) : G E shM X vi 27 [some (.ref (E.2.2.2 + q3)), some (.int x4), none, none, none, none] [.int y5] h6 (F_X7_heardBy_J27 q3 x4 y5 h6) := by
  unfold F_X7_heardBy_J27
  refine g_istore_n (i := 2) C [some (.ref (E.2.2.2 + q3)), some (.int x4), some (.int y5), none, none, none] dX7_heardBy_27 rfl (by decide) rfl rfl ?_
  refine g_iload_n (i := 2) C dX7_heardBy_28 rfl rfl ?_
  refine g_iconst (v := 1) C dX7_heardBy_29 (by decide) ?_
  refine g_icmp_ge C 37 dX7_heardBy_30 (by decide) (fun hc43 => ?_) (fun hc43 => ?_)
  · refine g_iload_n (i := 2) C dX7_heardBy_37 rfl rfl ?_
    refine g_drop (i := 2) [some (.ref (E.2.2.2 + q3)), some (.int x4), none, none, none, none] rfl ?_
    exact G_F_X7_heardBy_J38 C q3 x4 y5 eq3 h6
  · refine g_iconst (v := 1) C dX7_heardBy_33 (by decide) ?_
    refine g_goto C 38 dX7_heardBy_34 (by decide) ?_
    refine g_drop (i := 2) [some (.ref (E.2.2.2 + q3)), some (.int x4), none, none, none, none] rfl ?_
    exact G_F_X7_heardBy_J38 C q3 x4 (1 : Int32) eq3 h6
set_option maxHeartbeats 4000000 in
set_option maxRecDepth 100000 in
theorem c_X7_heardBy (E : Ev) (o : Nat) (p0 : Int32) (eo : isO shM o 7 = true) (h : Hp) {r : Int32} {h' : Hp} (e : F_X7_heardBy o p0 h = some (r, h')) : Ctr E shM yX7_heardBy cX7_heardBy 6 (some .int) 3 [.ref (E.2.2.2 + o), .int p0] h (vi r) h' := by
  refine Ctr.ofG (val := vi) e (by decide) (Nat.le_of_ble_eq_true rfl) [some (.ref (E.2.2.2 + o)), some (.int p0), none, none, none, none] rfl (fun X C => ?_)
  unfold F_X7_heardBy
  refine g_aload_n (i := 0) C dX7_heardBy_0 rfl rfl ?_
  refine g_getA C f_X7_19 eo dX7_heardBy_1 (fun q1 _ => ?_)
  refine g_iload_n (i := 1) C dX7_heardBy_4 rfl rfl ?_
  refine g_iald C dX7_heardBy_5 ?_
  refine g_iconst (v := 1) C dX7_heardBy_6 (by decide) ?_
  refine g_icmp_ne C 21 dX7_heardBy_7 (by decide) (fun hc45 => ?_) (fun hc45 => ?_)
  · refine g_aload_n (i := 0) C dX7_heardBy_10 rfl rfl ?_
    refine g_getA C f_X7_25 eo dX7_heardBy_11 (fun q44 _ => ?_)
    refine g_iload_n (i := 1) C dX7_heardBy_14 rfl rfl ?_
    refine g_iald C dX7_heardBy_15 ?_
    refine g_iconst (v := 1) C dX7_heardBy_16 (by decide) ?_
    refine g_iadd C dX7_heardBy_17 ?_
    refine g_goto C 27 dX7_heardBy_18 (by decide) ?_
    exact G_F_X7_heardBy_J27 C o p0 ((h.1 q44 (p0).toNatClampNeg) + (1 : Int32)) eo h
  · refine g_aload_n (i := 0) C dX7_heardBy_21 rfl rfl ?_
    refine g_getA C f_X7_25 eo dX7_heardBy_22 (fun q2 _ => ?_)
    refine g_iload_n (i := 1) C dX7_heardBy_25 rfl rfl ?_
    refine g_iald C dX7_heardBy_26 ?_
    exact G_F_X7_heardBy_J27 C o p0 (h.1 q2 (p0).toNatClampNeg) eo h
set_option maxHeartbeats 4000000 in
set_option maxRecDepth 100000 in
theorem G_F_X7_size_L4 {E : Ev} {X : Cx} (C : Ok E X cX7_size RX7 3 (some .int) 1) : ∀ (N : Nat) (x1 : Int32) (x2 : Int32) (h3 : Hp), G E shM X vi 4 [none, some (.int x1), some (.int x2)] [] h3 (F_X7_size_L4 N x1 x2 h3) := by
  intro N
  induction N with
  | zero =>
    intro _ _ _
    exact g_none
  | succ N ih =>
    intro x1 x2 h3
    rw [F_X7_size_L4]
    refine g_iload_n (i := 2) C dX7_size_4 rfl rfl ?_
    refine g_if_le C 21 dX7_size_5 (by decide) (fun hc6 => ?_) (fun hc6 => ?_)
    · refine g_iload_n (i := 1) C dX7_size_21 rfl rfl ?_
      exact g_ireti C dX7_size_22
    · refine g_iload_n (i := 1) C dX7_size_8 rfl rfl ?_
      refine g_iload_n (i := 2) C dX7_size_9 rfl rfl ?_
      refine g_iconst (v := 1) C dX7_size_10 (by decide) ?_
      refine g_iand C dX7_size_11 ?_
      refine g_iadd C dX7_size_12 ?_
      refine g_topi (fun x4 => ?_)
      refine g_istore_n (i := 1) C [none, some (.int x4), some (.int x2)] dX7_size_13 rfl (by decide) rfl rfl ?_
      refine g_iload_n (i := 2) C dX7_size_14 rfl rfl ?_
      refine g_iconst (v := 1) C dX7_size_15 (by decide) ?_
      refine g_ishr C dX7_size_16 ?_
      refine g_topi (fun x5 => ?_)
      refine g_istore_n (i := 2) C [none, some (.int x4), some (.int x5)] dX7_size_17 rfl (by decide) rfl rfl ?_
      refine g_goto C 4 dX7_size_18 (by decide) ?_
      exact ih x4 x5 h3
set_option maxHeartbeats 4000000 in
set_option maxRecDepth 100000 in
theorem c_X7_size (E : Ev) (p0 : Int32) (h : Hp) {r : Int32} {h' : Hp} (e : F_X7_size p0 h = some (r, h')) : Ctr E shM yX7_size cX7_size 3 (some .int) 1 [.int p0] h (vi r) h' := by
  refine Ctr.ofG (val := vi) e (by decide) (Nat.le_of_ble_eq_true rfl) [some (.int p0), none, none] rfl (fun X C => ?_)
  unfold F_X7_size
  refine g_iconst (v := 0) C dX7_size_0 (by decide) ?_
  refine g_istore_n (i := 1) C [some (.int p0), some (.int (0 : Int32)), none] dX7_size_1 rfl (by decide) rfl rfl ?_
  refine g_iload_n (i := 0) C dX7_size_2 rfl rfl ?_
  refine g_istore_n (i := 2) C [some (.int p0), some (.int (0 : Int32)), some (.int p0)] dX7_size_3 rfl (by decide) rfl rfl ?_
  refine g_drop (i := 0) [none, some (.int (0 : Int32)), some (.int p0)] rfl ?_
  exact G_F_X7_size_L4 C FU (0 : Int32) p0 h
set_option maxHeartbeats 4000000 in
set_option maxRecDepth 100000 in
theorem G_F_X7_layerOf_L10 {E : Ev} {X : Cx} (C : Ok E X cX7_layerOf RX7 5 (some .int) 1) (x2 : Int32) : ∀ (N : Nat) (x3 : Int32) (x4 : Int32) (h5 : Hp), G E shM X vi 10 [none, some (.int x2), none, some (.int x3), some (.int x4)] [] h5 (F_X7_layerOf_L10 x2 N x3 x4 h5) := by
  intro N
  induction N with
  | zero =>
    intro _ _ _
    exact g_none
  | succ N ih =>
    intro x3 x4 h5
    rw [F_X7_layerOf_L10]
    refine g_iload (i := 4) C dX7_layerOf_10 rfl ?_
    refine g_if_lt C 41 dX7_layerOf_12 (by decide) (fun hc11 => ?_) (fun hc11 => ?_)
    · refine g_bipush (v := -9) C dX7_layerOf_41 (by decide) ?_
      exact g_ireti C dX7_layerOf_43
    · refine g_iload_n (i := 1) C dX7_layerOf_15 rfl rfl ?_
      refine g_iload (i := 4) C dX7_layerOf_16 rfl ?_
      refine g_ishr C dX7_layerOf_18 ?_
      refine g_iconst (v := 1) C dX7_layerOf_19 (by decide) ?_
      refine g_iand C dX7_layerOf_20 ?_
      refine g_iconst (v := 1) C dX7_layerOf_21 (by decide) ?_
      refine g_icmp_ne C 35 dX7_layerOf_22 (by decide) (fun hc10 => ?_) (fun hc10 => ?_)
      · refine g_iload_n (i := 3) C dX7_layerOf_25 rfl rfl ?_
        refine g_if_ne C 32 dX7_layerOf_26 (by decide) (fun hc9 => ?_) (fun hc9 => ?_)
        · refine g_iload (i := 4) C dX7_layerOf_29 rfl ?_
          exact g_ireti C dX7_layerOf_31
        · refine g_iinc (i := 3) (w := -1) C (fun yy => [none, some (.int x2), none, some (.int yy), some (.int x4)]) dX7_layerOf_32 rfl (by decide) rfl (by decide) rfl (fun _ => rfl) (fun x7 => ?_)
          refine g_iinc (i := 4) (w := -1) C (fun yy => [none, some (.int x2), none, some (.int x7), some (.int yy)]) dX7_layerOf_35 rfl (by decide) rfl (by decide) rfl (fun _ => rfl) (fun x8 => ?_)
          refine g_goto C 10 dX7_layerOf_38 (by decide) ?_
          exact ih x7 x8 h5
      · refine g_iinc (i := 4) (w := -1) C (fun yy => [none, some (.int x2), none, some (.int x3), some (.int yy)]) dX7_layerOf_35 rfl (by decide) rfl (by decide) rfl (fun _ => rfl) (fun x6 => ?_)
        refine g_goto C 10 dX7_layerOf_38 (by decide) ?_
        exact ih x3 x6 h5
set_option maxHeartbeats 4000000 in
set_option maxRecDepth 100000 in
theorem c_X7_layerOf (E : Ev) (o : Nat) (p0 : Int32) (p1 : Int32) (eo : isO shM o 7 = true) (h : Hp) {r : Int32} {h' : Hp} (e : F_X7_layerOf o p0 p1 h = some (r, h')) : Ctr E shM yX7_layerOf cX7_layerOf 5 (some .int) 1 [.ref (E.2.2.2 + o), .int p0, .int p1] h (vi r) h' := by
  refine Ctr.ofG (val := vi) e (by decide) (Nat.le_of_ble_eq_true rfl) [some (.ref (E.2.2.2 + o)), some (.int p0), some (.int p1), none, none] rfl (fun X C => ?_)
  unfold F_X7_layerOf
  refine g_iload_n (i := 2) C dX7_layerOf_0 rfl rfl ?_
  refine g_istore_n (i := 3) C [some (.ref (E.2.2.2 + o)), some (.int p0), some (.int p1), some (.int p1), none] dX7_layerOf_1 rfl (by decide) rfl rfl ?_
  refine g_aload_n (i := 0) C dX7_layerOf_2 rfl rfl ?_
  refine g_getI C f_X7_89 eo dX7_layerOf_3 ?_
  refine g_iconst (v := 1) C dX7_layerOf_6 (by decide) ?_
  refine g_isub C dX7_layerOf_7 ?_
  refine g_topi (fun x1 => ?_)
  refine g_istore (i := 4) C [some (.ref (E.2.2.2 + o)), some (.int p0), some (.int p1), some (.int p1), some (.int x1)] dX7_layerOf_8 (by decide) rfl rfl ?_
  refine g_drop (i := 0) [none, some (.int p0), some (.int p1), some (.int p1), some (.int x1)] rfl ?_
  refine g_drop (i := 2) [none, some (.int p0), none, some (.int p1), some (.int x1)] rfl ?_
  exact G_F_X7_layerOf_L10 C p0 FU p1 x1 h
set_option maxHeartbeats 4000000 in
set_option maxRecDepth 100000 in
theorem G_F_X7_wordsOf_L5 {E : Ev} {X : Cx} (C : Ok E X cX7_wordsOf RX7 5 (some .int) 2) (q1 : Nat) (x2 : Int32) (x3 : Int32) (eq1 : isO shM q1 7 = true) : ∀ (N : Nat) (x4 : Int32) (x5 : Int32) (h6 : Hp), G E shM X vi 5 [some (.ref (E.2.2.2 + q1)), some (.int x2), some (.int x3), some (.int x4), some (.int x5)] [] h6 (F_X7_wordsOf_L5 q1 x2 x3 N x4 x5 h6) := by
  intro N
  induction N with
  | zero =>
    intro _ _ _
    exact g_none
  | succ N ih =>
    intro x4 x5 h6
    rw [F_X7_wordsOf_L5]
    refine g_iload (i := 4) C dX7_wordsOf_5 rfl ?_
    refine g_iload_n (i := 2) C dX7_wordsOf_7 rfl rfl ?_
    refine g_icmp_ge C 43 dX7_wordsOf_8 (by decide) (fun hc15 => ?_) (fun hc15 => ?_)
    · refine g_iload_n (i := 3) C dX7_wordsOf_43 rfl rfl ?_
      exact g_ireti C dX7_wordsOf_44
    · refine g_iload (i := 4) C dX7_wordsOf_11 rfl ?_
      refine g_iload_n (i := 1) C dX7_wordsOf_13 rfl rfl ?_
      refine g_cSi1 C cf_X7_179 aw_26 (fun r h' e => c_X7_size E x2 h6 e) (by decide) (by decide) (Nat.le_of_ble_eq_true rfl) dX7_wordsOf_14 (fun r8 h7 _ => ?_)
      refine g_icmp_ge C 43 dX7_wordsOf_17 (by decide) (fun hc14 => ?_) (fun hc14 => ?_)
      · refine g_iload_n (i := 3) C dX7_wordsOf_43 rfl rfl ?_
        exact g_ireti C dX7_wordsOf_44
      · refine g_iload_n (i := 3) C dX7_wordsOf_20 rfl rfl ?_
        refine g_iconst (v := 1) C dX7_wordsOf_21 (by decide) ?_
        refine g_aload_n (i := 0) C dX7_wordsOf_22 rfl rfl ?_
        refine g_getA C f_X7_37 eq1 dX7_wordsOf_23 (fun q9 _ => ?_)
        refine g_aload_n (i := 0) C dX7_wordsOf_26 rfl rfl ?_
        refine g_iload_n (i := 1) C dX7_wordsOf_27 rfl rfl ?_
        refine g_iload (i := 4) C dX7_wordsOf_28 rfl ?_
        refine g_cVi2 C cf_X7_173 cv_X7_layerOf eq1 (fun r h' e => c_X7_layerOf E q1 x2 x5 eq1 h7 e) (by decide) (by decide) (Nat.le_of_ble_eq_true rfl) dX7_wordsOf_30 (fun r11 h10 _ => ?_)
        refine g_iald C dX7_wordsOf_33 ?_
        refine g_ishl C dX7_wordsOf_34 ?_
        refine g_ior C dX7_wordsOf_35 ?_
        refine g_topi (fun x12 => ?_)
        refine g_istore_n (i := 3) C [some (.ref (E.2.2.2 + q1)), some (.int x2), some (.int x3), some (.int x12), some (.int x5)] dX7_wordsOf_36 rfl (by decide) rfl rfl ?_
        refine g_iinc (i := 4) (w := 1) C (fun yy => [some (.ref (E.2.2.2 + q1)), some (.int x2), some (.int x3), some (.int x12), some (.int yy)]) dX7_wordsOf_37 rfl (by decide) rfl (by decide) rfl (fun _ => rfl) (fun x13 => ?_)
        refine g_goto C 5 dX7_wordsOf_40 (by decide) ?_
        exact ih x12 x13 h10
set_option maxHeartbeats 4000000 in
set_option maxRecDepth 100000 in
theorem c_X7_wordsOf (E : Ev) (o : Nat) (p0 : Int32) (p1 : Int32) (eo : isO shM o 7 = true) (h : Hp) {r : Int32} {h' : Hp} (e : F_X7_wordsOf o p0 p1 h = some (r, h')) : Ctr E shM yX7_wordsOf cX7_wordsOf 5 (some .int) 2 [.ref (E.2.2.2 + o), .int p0, .int p1] h (vi r) h' := by
  refine Ctr.ofG (val := vi) e (by decide) (Nat.le_of_ble_eq_true rfl) [some (.ref (E.2.2.2 + o)), some (.int p0), some (.int p1), none, none] rfl (fun X C => ?_)
  unfold F_X7_wordsOf
  refine g_iconst (v := 0) C dX7_wordsOf_0 (by decide) ?_
  refine g_istore_n (i := 3) C [some (.ref (E.2.2.2 + o)), some (.int p0), some (.int p1), some (.int (0 : Int32)), none] dX7_wordsOf_1 rfl (by decide) rfl rfl ?_
  refine g_iconst (v := 0) C dX7_wordsOf_2 (by decide) ?_
  refine g_istore (i := 4) C [some (.ref (E.2.2.2 + o)), some (.int p0), some (.int p1), some (.int (0 : Int32)), some (.int (0 : Int32))] dX7_wordsOf_3 (by decide) rfl rfl ?_
  exact G_F_X7_wordsOf_L5 C o p0 p1 eo FU (0 : Int32) (0 : Int32) h
set_option maxHeartbeats 4000000 in
set_option maxRecDepth 100000 in
theorem G_F_X7_alone_L24 {E : Ev} {X : Cx} (C : Ok E X cX7_alone RX7 4 (some .int) 4) (q7 : Nat) (x8 : Int32) (eq7 : isO shM q7 7 = true) : ∀ (N : Nat) (x9 : Int32) (x10 : Int32) (h11 : Hp), G E shM X vi 24 [some (.ref (E.2.2.2 + q7)), some (.int x8), some (.int x9), some (.int x10)] [] h11 (F_X7_alone_L24 q7 x8 N x9 x10 h11) := by
  intro N
  induction N with
  | zero =>
    intro _ _ _
    exact g_none
  | succ N ih =>
    intro x9 x10 h11
    rw [F_X7_alone_L24]
    refine g_iload_n (i := 3) C dX7_alone_24 rfl rfl ?_
    refine g_aload_n (i := 0) C dX7_alone_25 rfl rfl ?_
    refine g_getI C f_X7_83 eq7 dX7_alone_26 ?_
    refine g_icmp_ge C 65 dX7_alone_29 (by decide) (fun hc21 => ?_) (fun hc21 => ?_)
    · refine g_iload_n (i := 2) C dX7_alone_65 rfl rfl ?_
      exact g_ireti C dX7_alone_66
    · refine g_iload_n (i := 2) C dX7_alone_32 rfl rfl ?_
      refine g_iload_n (i := 3) C dX7_alone_33 rfl rfl ?_
      refine g_iload_n (i := 1) C dX7_alone_34 rfl rfl ?_
      refine g_icmp_ne C 44 dX7_alone_35 (by decide) (fun hc20 => ?_) (fun hc20 => ?_)
      · refine g_sipush (v := 255) C dX7_alone_38 (by decide) ?_
        refine g_goto C 57 dX7_alone_41 (by decide) ?_
        refine g_iand C dX7_alone_57 ?_
        refine g_topi (fun x18 => ?_)
        refine g_istore_n (i := 2) C [some (.ref (E.2.2.2 + q7)), some (.int x8), some (.int x18), some (.int x10)] dX7_alone_58 rfl (by decide) rfl rfl ?_
        refine g_iinc (i := 3) (w := 1) C (fun yy => [some (.ref (E.2.2.2 + q7)), some (.int x8), some (.int x18), some (.int yy)]) dX7_alone_59 rfl (by decide) rfl (by decide) rfl (fun _ => rfl) (fun x19 => ?_)
        refine g_goto C 24 dX7_alone_62 (by decide) ?_
        exact ih x18 x19 h11
      · refine g_aload_n (i := 0) C dX7_alone_44 rfl rfl ?_
        refine g_aload_n (i := 0) C dX7_alone_45 rfl rfl ?_
        refine g_iload_n (i := 3) C dX7_alone_46 rfl rfl ?_
        refine g_cVi1 C cf_X7_170 cv_X7_heardBy eq7 (fun r h' e => c_X7_heardBy E q7 x10 eq7 h11 e) (by decide) (by decide) (Nat.le_of_ble_eq_true rfl) dX7_alone_47 (fun r13 h12 _ => ?_)
        refine g_bipush (v := 8) C dX7_alone_50 (by decide) ?_
        refine g_cVi2 C cf_X7_182 cv_X7_wordsOf eq7 (fun r h' e => c_X7_wordsOf E q7 r13 (8 : Int32) eq7 h12 e) (by decide) (by decide) (Nat.le_of_ble_eq_true rfl) dX7_alone_52 (fun r15 h14 _ => ?_)
        refine g_iconst (v := -1) C dX7_alone_55 (by decide) ?_
        refine g_ixor C dX7_alone_56 ?_
        refine g_iand C dX7_alone_57 ?_
        refine g_topi (fun x16 => ?_)
        refine g_istore_n (i := 2) C [some (.ref (E.2.2.2 + q7)), some (.int x8), some (.int x16), some (.int x10)] dX7_alone_58 rfl (by decide) rfl rfl ?_
        refine g_iinc (i := 3) (w := 1) C (fun yy => [some (.ref (E.2.2.2 + q7)), some (.int x8), some (.int x16), some (.int yy)]) dX7_alone_59 rfl (by decide) rfl (by decide) rfl (fun _ => rfl) (fun x17 => ?_)
        refine g_goto C 24 dX7_alone_62 (by decide) ?_
        exact ih x16 x17 h14
set_option maxHeartbeats 4000000 in
set_option maxRecDepth 100000 in
theorem c_X7_alone (E : Ev) (o : Nat) (p0 : Int32) (eo : isO shM o 7 = true) (h : Hp) {r : Int32} {h' : Hp} (e : F_X7_alone o p0 h = some (r, h')) : Ctr E shM yX7_alone cX7_alone 4 (some .int) 4 [.ref (E.2.2.2 + o), .int p0] h (vi r) h' := by
  refine Ctr.ofG (val := vi) e (by decide) (Nat.le_of_ble_eq_true rfl) [some (.ref (E.2.2.2 + o)), some (.int p0), none, none] rfl (fun X C => ?_)
  unfold F_X7_alone
  refine g_aload_n (i := 0) C dX7_alone_0 rfl rfl ?_
  refine g_iload_n (i := 1) C dX7_alone_1 rfl rfl ?_
  refine g_cVi1 C cf_X7_145 cv_X7_isCheese eo (fun r h' e => c_X7_isCheese E o p0 eo h e) (by decide) (by decide) (Nat.le_of_ble_eq_true rfl) dX7_alone_2 (fun r2 h1 _ => ?_)
  refine g_if_ne C 10 dX7_alone_5 (by decide) (fun hc22 => ?_) (fun hc22 => ?_)
  · refine g_iconst (v := -1) C dX7_alone_8 (by decide) ?_
    exact g_ireti C dX7_alone_9
  · refine g_aload_n (i := 0) C dX7_alone_10 rfl rfl ?_
    refine g_aload_n (i := 0) C dX7_alone_11 rfl rfl ?_
    refine g_iload_n (i := 1) C dX7_alone_12 rfl rfl ?_
    refine g_cVi1 C cf_X7_170 cv_X7_heardBy eo (fun r h' e => c_X7_heardBy E o p0 eo h1 e) (by decide) (by decide) (Nat.le_of_ble_eq_true rfl) dX7_alone_13 (fun r4 h3 _ => ?_)
    refine g_bipush (v := 8) C dX7_alone_16 (by decide) ?_
    refine g_cVi2 C cf_X7_182 cv_X7_wordsOf eo (fun r h' e => c_X7_wordsOf E o r4 (8 : Int32) eo h3 e) (by decide) (by decide) (Nat.le_of_ble_eq_true rfl) dX7_alone_18 (fun r6 h5 _ => ?_)
    refine g_istore_n (i := 2) C [some (.ref (E.2.2.2 + o)), some (.int p0), some (.int r6), none] dX7_alone_21 rfl (by decide) rfl rfl ?_
    refine g_iconst (v := 0) C dX7_alone_22 (by decide) ?_
    refine g_istore_n (i := 3) C [some (.ref (E.2.2.2 + o)), some (.int p0), some (.int r6), some (.int (0 : Int32))] dX7_alone_23 rfl (by decide) rfl rfl ?_
    exact G_F_X7_alone_L24 C o p0 eo FU r6 (0 : Int32) h5
set_option maxHeartbeats 4000000 in
set_option maxRecDepth 100000 in
theorem G_F_X7_areSo_J48 {E : Ev} {X : Cx} (C : Ok E X cX7_areSo RX7 3 (some .boolean) 4) (k2 : Int32 → Hp → Option (Int32 × Hp)) (q1 : Nat) (x12 : Int32) (y13 : Int32) (hk2 : ∀ (z1 : Int32) (hh : Hp), G E shM X vi 2 [some (.ref (E.2.2.2 + q1)), some (.int z1), none] [] hh (k2 z1 hh)) (eq1 : isO shM q1 7 = true) (h14 : Hp) : G E shM X vi 48 [some (.ref (E.2.2.2 + q1)), some (.int x12), none] [.int y13] h14 (F_X7_areSo_J48 k2 q1 x12 y13 h14) := by
  unfold F_X7_areSo_J48
  refine g_aload_n (i := 0) C dX7_areSo_48 rfl rfl ?_
  refine g_getA C f_X7_70 eq1 dX7_areSo_49 (fun q15 _ => ?_)
  refine g_iload_n (i := 1) C dX7_areSo_52 rfl rfl ?_
  refine g_iald C dX7_areSo_53 ?_
  refine g_icmp_eq C 59 dX7_areSo_54 (by decide) (fun hc17 => ?_) (fun hc17 => ?_)
  · refine g_iinc (i := 1) (w := 1) C (fun yy => [some (.ref (E.2.2.2 + q1)), some (.int yy), none]) dX7_areSo_59 rfl (by decide) rfl (by decide) rfl (fun _ => rfl) (fun x16 => ?_)
    refine g_goto C 2 dX7_areSo_62 (by decide) ?_
    exact hk2 x16 h14
  · refine g_iconst (v := 0) C dX7_areSo_57 (by decide) ?_
    exact g_iretz C rfl dX7_areSo_58
set_option maxHeartbeats 4000000 in
set_option maxRecDepth 100000 in
theorem G_F_X7_areSo_L2 {E : Ev} {X : Cx} (C : Ok E X cX7_areSo RX7 3 (some .boolean) 4) (q1 : Nat) (eq1 : isO shM q1 7 = true) : ∀ (N : Nat) (x2 : Int32) (h3 : Hp), G E shM X vi 2 [some (.ref (E.2.2.2 + q1)), some (.int x2), none] [] h3 (F_X7_areSo_L2 q1 N x2 h3) := by
  intro N
  induction N with
  | zero =>
    intro _ _
    exact g_none
  | succ N ih =>
    intro x2 h3
    rw [F_X7_areSo_L2]
    refine g_iload_n (i := 1) C dX7_areSo_2 rfl rfl ?_
    refine g_aload_n (i := 0) C dX7_areSo_3 rfl rfl ?_
    refine g_getI C f_X7_128 eq1 dX7_areSo_4 ?_
    refine g_icmp_ge C 65 dX7_areSo_7 (by decide) (fun hc19 => ?_) (fun hc19 => ?_)
    · refine g_iconst (v := 1) C dX7_areSo_65 (by decide) ?_
      exact g_iretz C rfl dX7_areSo_66
    · refine g_aload_n (i := 0) C dX7_areSo_10 rfl rfl ?_
      refine g_aload_n (i := 0) C dX7_areSo_11 rfl rfl ?_
      refine g_aload_n (i := 0) C dX7_areSo_12 rfl rfl ?_
      refine g_getA C f_X7_64 eq1 dX7_areSo_13 (fun q4 _ => ?_)
      refine g_iload_n (i := 1) C dX7_areSo_16 rfl rfl ?_
      refine g_iald C dX7_areSo_17 ?_
      refine g_cVi1 C cf_X7_170 cv_X7_heardBy eq1 (fun r h' e => c_X7_heardBy E q1 (h3.1 q4 (x2).toNatClampNeg) eq1 h3 e) (by decide) (by decide) (Nat.le_of_ble_eq_true rfl) dX7_areSo_18 (fun r6 h5 _ => ?_)
      refine g_aload_n (i := 0) C dX7_areSo_21 rfl rfl ?_
      refine g_getA C f_X7_67 eq1 dX7_areSo_22 (fun q7 _ => ?_)
      refine g_iload_n (i := 1) C dX7_areSo_25 rfl rfl ?_
      refine g_iald C dX7_areSo_26 ?_
      refine g_cVi2 C cf_X7_173 cv_X7_layerOf eq1 (fun r h' e => c_X7_layerOf E q1 r6 (h5.1 q7 (x2).toNatClampNeg) eq1 h5 e) (by decide) (by decide) (Nat.le_of_ble_eq_true rfl) dX7_areSo_27 (fun r9 h8 _ => ?_)
      refine g_istore_n (i := 2) C [some (.ref (E.2.2.2 + q1)), some (.int x2), some (.int r9)] dX7_areSo_30 rfl (by decide) rfl rfl ?_
      refine g_iload_n (i := 2) C dX7_areSo_31 rfl rfl ?_
      refine g_bipush (v := -9) C dX7_areSo_32 (by decide) ?_
      refine g_icmp_ne C 42 dX7_areSo_34 (by decide) (fun hc18 => ?_) (fun hc18 => ?_)
      · refine g_bipush (v := -9) C dX7_areSo_37 (by decide) ?_
        refine g_goto C 48 dX7_areSo_39 (by decide) ?_
        refine g_drop (i := 2) [some (.ref (E.2.2.2 + q1)), some (.int x2), none] rfl ?_
        exact G_F_X7_areSo_J48 C (F_X7_areSo_L2 q1 N) q1 x2 (-9 : Int32) (ih) eq1 h8
      · refine g_aload_n (i := 0) C dX7_areSo_42 rfl rfl ?_
        refine g_getA C f_X7_37 eq1 dX7_areSo_43 (fun q10 _ => ?_)
        refine g_iload_n (i := 2) C dX7_areSo_46 rfl rfl ?_
        refine g_iald C dX7_areSo_47 ?_
        refine g_drop (i := 2) [some (.ref (E.2.2.2 + q1)), some (.int x2), none] rfl ?_
        exact G_F_X7_areSo_J48 C (F_X7_areSo_L2 q1 N) q1 x2 (h8.1 q10 (r9).toNatClampNeg) (ih) eq1 h8
set_option maxHeartbeats 4000000 in
set_option maxRecDepth 100000 in
theorem c_X7_areSo (E : Ev) (o : Nat) (eo : isO shM o 7 = true) (h : Hp) {r : Int32} {h' : Hp} (e : F_X7_areSo o h = some (r, h')) : Ctr E shM yX7_areSo cX7_areSo 3 (some .boolean) 4 [.ref (E.2.2.2 + o)] h (vi r) h' := by
  refine Ctr.ofG (val := vi) e (by decide) (Nat.le_of_ble_eq_true rfl) [some (.ref (E.2.2.2 + o)), none, none] rfl (fun X C => ?_)
  unfold F_X7_areSo
  refine g_iconst (v := 0) C dX7_areSo_0 (by decide) ?_
  refine g_istore_n (i := 1) C [some (.ref (E.2.2.2 + o)), some (.int (0 : Int32)), none] dX7_areSo_1 rfl (by decide) rfl rfl ?_
  exact G_F_X7_areSo_L2 C o eo FU (0 : Int32) h
set_option maxHeartbeats 4000000 in
set_option maxRecDepth 100000 in
theorem c_X7_within (E : Ev) (p0 : Int32) (p1 : Int32) (p2 : Int32) (h : Hp) {r : Int32} {h' : Hp} (e : F_X7_within p0 p1 p2 h = some (r, h')) : Ctr E shM yX7_within cX7_within 3 (some .boolean) 1 [.int p0, .int p1, .int p2] h (vi r) h' := by
  refine Ctr.ofG (val := vi) e (by decide) (Nat.le_of_ble_eq_true rfl) [some (.int p0), some (.int p1), some (.int p2)] rfl (fun X C => ?_)
  unfold F_X7_within
  refine g_iload_n (i := 0) C dX7_within_0 rfl rfl ?_
  refine g_iload_n (i := 1) C dX7_within_1 rfl rfl ?_
  refine g_icmp_lt C 14 dX7_within_2 (by decide) (fun hc2 => ?_) (fun hc2 => ?_)
  · refine g_iconst (v := 0) C dX7_within_14 (by decide) ?_
    exact g_iretz C rfl dX7_within_15
  · refine g_iload_n (i := 0) C dX7_within_5 rfl rfl ?_
    refine g_iload_n (i := 2) C dX7_within_6 rfl rfl ?_
    refine g_icmp_gt C 14 dX7_within_7 (by decide) (fun hc1 => ?_) (fun hc1 => ?_)
    · refine g_iconst (v := 0) C dX7_within_14 (by decide) ?_
      exact g_iretz C rfl dX7_within_15
    · refine g_iconst (v := 1) C dX7_within_10 (by decide) ?_
      refine g_goto C 15 dX7_within_11 (by decide) ?_
      exact g_iretz C rfl dX7_within_15
set_option maxHeartbeats 4000000 in
set_option maxRecDepth 100000 in
theorem c_X7_fails (E : Ev) (o : Nat) (p0 : Int32) (eo : isO shM o 7 = true) (h : Hp) {r : Int32} {h' : Hp} (e : F_X7_fails o p0 h = some (r, h')) : Ctr E shM yX7_fails cX7_fails 2 (some .int) 1 [.ref (E.2.2.2 + o), .int p0] h (vi r) h' := by
  refine Ctr.ofG (val := vi) e (by decide) (Nat.le_of_ble_eq_true rfl) [some (.ref (E.2.2.2 + o)), some (.int p0)] rfl (fun X C => ?_)
  unfold F_X7_fails
  refine g_aload_n (i := 0) C dX7_fails_0 rfl rfl ?_
  refine g_iload_n (i := 1) C dX7_fails_1 rfl rfl ?_
  refine g_putI C f_X7_73 eo dX7_fails_2 (fun h1 => ?_)
  refine g_bipush (v := -10) C dX7_fails_5 (by decide) ?_
  refine g_iload_n (i := 1) C dX7_fails_7 rfl rfl ?_
  refine g_isub C dX7_fails_8 ?_
  exact g_ireti C dX7_fails_9
set_option maxHeartbeats 4000000 in
set_option maxRecDepth 100000 in
theorem c_X7_as (E : Ev) (o : Nat) (p0 : Int32) (p1 : Int32) (eo : isO shM o 7 = true) (h : Hp) {r : Int32} {h' : Hp} (e : F_X7_as o p0 p1 h = some (r, h')) : Ctr E shM yX7_as cX7_as 3 (some .int) 2 [.ref (E.2.2.2 + o), .int p0, .int p1] h (vi r) h' := by
  refine Ctr.ofG (val := vi) e (by decide) (Nat.le_of_ble_eq_true rfl) [some (.ref (E.2.2.2 + o)), some (.int p0), some (.int p1)] rfl (fun X C => ?_)
  unfold F_X7_as
  refine g_aload_n (i := 0) C dX7_as_0 rfl rfl ?_
  refine g_iconst (v := 0) C dX7_as_1 (by decide) ?_
  refine g_putI C f_X7_73 eo dX7_as_2 (fun h1 => ?_)
  refine g_aload_n (i := 0) C dX7_as_5 rfl rfl ?_
  refine g_iload_n (i := 1) C dX7_as_6 rfl rfl ?_
  refine g_cVi1 C cf_X7_145 cv_X7_isCheese eo (fun r h' e => c_X7_isCheese E o p0 eo h1 e) (by decide) (by decide) (Nat.le_of_ble_eq_true rfl) dX7_as_7 (fun r3 h2 _ => ?_)
  refine g_if_ne C 15 dX7_as_10 (by decide) (fun hc11 => ?_) (fun hc11 => ?_)
  · refine g_iconst (v := -1) C dX7_as_13 (by decide) ?_
    exact g_ireti C dX7_as_14
  · refine g_iload_n (i := 2) C dX7_as_15 rfl rfl ?_
    refine g_iconst (v := 0) C dX7_as_16 (by decide) ?_
    refine g_iconst (v := 2) C dX7_as_17 (by decide) ?_
    refine g_cSi3 C cf_X7_79 aw_27 (fun r h' e => c_X7_within E p1 (0 : Int32) (2 : Int32) h2 e) (by decide) (by decide) (Nat.le_of_ble_eq_true rfl) dX7_as_18 (fun r5 h4 _ => ?_)
    refine g_if_ne C 27 dX7_as_21 (by decide) (fun hc10 => ?_) (fun hc10 => ?_)
    · refine g_bipush (v := -2) C dX7_as_24 (by decide) ?_
      exact g_ireti C dX7_as_26
    · refine g_aload_n (i := 0) C dX7_as_27 rfl rfl ?_
      refine g_getA C f_X7_19 eo dX7_as_28 (fun q6 _ => ?_)
      refine g_iload_n (i := 1) C dX7_as_31 rfl rfl ?_
      refine g_iald C dX7_as_32 ?_
      refine g_iload_n (i := 2) C dX7_as_33 rfl rfl ?_
      refine g_icmp_lt C 41 dX7_as_34 (by decide) (fun hc9 => ?_) (fun hc9 => ?_)
      · refine g_aload_n (i := 0) C dX7_as_41 rfl rfl ?_
        refine g_iconst (v := 2) C dX7_as_42 (by decide) ?_
        refine g_cVi1 C cf_X7_106 cv_X7_fails eo (fun r h' e => c_X7_fails E o (2 : Int32) eo h4 e) (by decide) (by decide) (Nat.le_of_ble_eq_true rfl) dX7_as_43 (fun r8 h7 _ => ?_)
        exact g_ireti C dX7_as_46
      · refine g_iconst (v := 1) C dX7_as_37 (by decide) ?_
        refine g_goto C 46 dX7_as_38 (by decide) ?_
        exact g_ireti C dX7_as_46
set_option maxHeartbeats 4000000 in
set_option maxRecDepth 100000 in
theorem c_X7_back (E : Ev) (o : Nat) (p0 : Int32) (eo : isO shM o 7 = true) (h : Hp) {r : Int32} {h' : Hp} (e : F_X7_back o p0 h = some (r, h')) : Ctr E shM yX7_back cX7_back 2 (some .int) 2 [.ref (E.2.2.2 + o), .int p0] h (vi r) h' := by
  refine Ctr.ofG (val := vi) e (by decide) (Nat.le_of_ble_eq_true rfl) [some (.ref (E.2.2.2 + o)), some (.int p0)] rfl (fun X C => ?_)
  unfold F_X7_back
  refine g_iload_n (i := 1) C dX7_back_0 rfl rfl ?_
  refine g_iconst (v := 0) C dX7_back_1 (by decide) ?_
  refine g_aload_n (i := 0) C dX7_back_2 rfl rfl ?_
  refine g_getI C f_X7_128 eo dX7_back_3 ?_
  refine g_cSi3 C cf_X7_79 aw_27 (fun r h' e => c_X7_within E p0 (0 : Int32) (h.1 o 29) h e) (by decide) (by decide) (Nat.le_of_ble_eq_true rfl) dX7_back_6 (fun r2 h1 _ => ?_)
  refine g_if_ne C 15 dX7_back_9 (by decide) (fun hc4 => ?_) (fun hc4 => ?_)
  · refine g_bipush (v := -2) C dX7_back_12 (by decide) ?_
    exact g_ireti C dX7_back_14
  · refine g_aload_n (i := 0) C dX7_back_15 rfl rfl ?_
    refine g_dup C dX7_back_16 rfl ?_
    refine g_getI C f_X7_128 eo dX7_back_17 ?_
    refine g_iload_n (i := 1) C dX7_back_20 rfl rfl ?_
    refine g_isub C dX7_back_21 ?_
    refine g_putI C f_X7_128 eo dX7_back_22 (fun h3 => ?_)
    refine g_aload_n (i := 0) C dX7_back_25 rfl rfl ?_
    refine g_getI C f_X7_128 eo dX7_back_26 ?_
    exact g_ireti C dX7_back_29
set_option maxHeartbeats 4000000 in
set_option maxRecDepth 100000 in
theorem c_X7_begins (E : Ev) (o : Nat) (p0 : Int32) (eo : isO shM o 7 = true) (h : Hp) {r : Unit} {h' : Hp} (e : F_X7_begins o p0 h = some (r, h')) : Ctr E shM yX7_begins cX7_begins 2 none 1 [.ref (E.2.2.2 + o), .int p0] h (vv r) h' := by
  refine Ctr.ofG (val := vv) e (by decide) (Nat.le_of_ble_eq_true rfl) [some (.ref (E.2.2.2 + o)), some (.int p0)] rfl (fun X C => ?_)
  unfold F_X7_begins
  refine g_aload_n (i := 0) C dX7_begins_0 rfl rfl ?_
  refine g_bipush (v := 31) C dX7_begins_1 (by decide) ?_
  refine g_aload_n (i := 0) C dX7_begins_3 rfl rfl ?_
  refine g_getI C f_X7_220 eo dX7_begins_4 ?_
  refine g_imul C dX7_begins_7 ?_
  refine g_iload_n (i := 1) C dX7_begins_8 rfl rfl ?_
  refine g_iadd C dX7_begins_9 ?_
  refine g_putI C f_X7_220 eo dX7_begins_10 (fun h1 => ?_)
  exact g_vret C dX7_begins_13
set_option maxHeartbeats 4000000 in
set_option maxRecDepth 100000 in
theorem c_X7_isSheet (E : Ev) (p0 : Int32) (h : Hp) {r : Int32} {h' : Hp} (e : F_X7_isSheet p0 h = some (r, h')) : Ctr E shM yX7_isSheet cX7_isSheet 1 (some .boolean) 2 [.int p0] h (vi r) h' := by
  refine Ctr.ofG (val := vi) e (by decide) (Nat.le_of_ble_eq_true rfl) [some (.int p0)] rfl (fun X C => ?_)
  unfold F_X7_isSheet
  refine g_iload_n (i := 0) C dX7_isSheet_0 rfl rfl ?_
  refine g_iconst (v := 0) C dX7_isSheet_1 (by decide) ?_
  refine g_iconst (v := 3) C dX7_isSheet_2 (by decide) ?_
  refine g_cSi3 C cf_X7_79 aw_27 (fun r h' e => c_X7_within E p0 (0 : Int32) (3 : Int32) h e) (by decide) (by decide) (Nat.le_of_ble_eq_true rfl) dX7_isSheet_3 (fun r2 h1 _ => ?_)
  exact g_iretb C dX7_isSheet_6
set_option maxHeartbeats 4000000 in
set_option maxRecDepth 100000 in
theorem c_X7_isSort (E : Ev) (p0 : Int32) (h : Hp) {r : Int32} {h' : Hp} (e : F_X7_isSort p0 h = some (r, h')) : Ctr E shM yX7_isSort cX7_isSort 1 (some .boolean) 2 [.int p0] h (vi r) h' := by
  refine Ctr.ofG (val := vi) e (by decide) (Nat.le_of_ble_eq_true rfl) [some (.int p0)] rfl (fun X C => ?_)
  unfold F_X7_isSort
  refine g_iload_n (i := 0) C dX7_isSort_0 rfl rfl ?_
  refine g_iconst (v := 0) C dX7_isSort_1 (by decide) ?_
  refine g_iconst (v := 2) C dX7_isSort_2 (by decide) ?_
  refine g_cSi3 C cf_X7_79 aw_27 (fun r h' e => c_X7_within E p0 (0 : Int32) (2 : Int32) h e) (by decide) (by decide) (Nat.le_of_ble_eq_true rfl) dX7_isSort_3 (fun r2 h1 _ => ?_)
  exact g_iretb C dX7_isSort_6
set_option maxHeartbeats 4000000 in
set_option maxRecDepth 100000 in
theorem c_X7_lost (E : Ev) (o : Nat) (p0 : Int32) (eo : isO shM o 7 = true) (h : Hp) {r : Int64} {h' : Hp} (e : F_X7_lost o p0 h = some (r, h')) : Ctr E shM yX7_lost cX7_lost 2 (some .long) 1 [.ref (E.2.2.2 + o), .int p0] h (vl r) h' := by
  refine Ctr.ofG (val := vl) e (by decide) (Nat.le_of_ble_eq_true rfl) [some (.ref (E.2.2.2 + o)), some (.int p0)] rfl (fun X C => ?_)
  unfold F_X7_lost
  refine g_aload_n (i := 0) C dX7_lost_0 rfl rfl ?_
  refine g_iload_n (i := 1) C dX7_lost_1 rfl rfl ?_
  refine g_putI C f_X7_73 eo dX7_lost_2 (fun h1 => ?_)
  refine g_ldc2 (v := -9223372036854775808) C dX7_lost_5 aw_28 ?_
  exact g_lret C dX7_lost_8
set_option maxHeartbeats 4000000 in
set_option maxRecDepth 100000 in
theorem G_F_X7_cell_J50 {E : Ev} {X : Cx} (C : Ok E X cX7_cell RX7 4 (some .long) 3) (q7 : Nat) (x8 : Int32) (x9 : Int32) (eq7 : isO shM q7 7 = true) (h10 : Hp) : G E shM X vl 50 [some (.ref (E.2.2.2 + q7)), some (.int x8), some (.int x9), none] [] h10 (F_X7_cell_J50 q7 x8 x9 h10) := by
  unfold F_X7_cell_J50
  refine g_aload_n (i := 0) C dX7_cell_50 rfl rfl ?_
  refine g_getA C f_X7_9 eq7 dX7_cell_51 (fun q11 _ => ?_)
  refine g_iload_n (i := 1) C dX7_cell_54 rfl rfl ?_
  refine g_iald C dX7_cell_55 ?_
  refine g_bipush (v := -9) C dX7_cell_56 (by decide) ?_
  refine g_icmp_ne C 67 dX7_cell_58 (by decide) (fun hc21 => ?_) (fun hc21 => ?_)
  · refine g_aload_n (i := 0) C dX7_cell_61 rfl rfl ?_
    refine g_iconst (v := 1) C dX7_cell_62 (by decide) ?_
    refine g_cVl1 C cf_X7_216 cv_X7_lost eq7 (fun r h' e => c_X7_lost E q7 (1 : Int32) eq7 h10 e) (by decide) (by decide) (Nat.le_of_ble_eq_true rfl) dX7_cell_63 (fun r20 h19 _ => ?_)
    exact g_lret C dX7_cell_66
  · refine g_iload_n (i := 2) C dX7_cell_67 rfl rfl ?_
    refine g_iconst (v := 0) C dX7_cell_68 (by decide) ?_
    refine g_aload_n (i := 0) C dX7_cell_69 rfl rfl ?_
    refine g_getA C f_X7_13 eq7 dX7_cell_70 (fun q12 _ => ?_)
    refine g_iload_n (i := 1) C dX7_cell_73 rfl rfl ?_
    refine g_iald C dX7_cell_74 ?_
    refine g_iconst (v := 1) C dX7_cell_75 (by decide) ?_
    refine g_isub C dX7_cell_76 ?_
    refine g_cSi3 C cf_X7_79 aw_27 (fun r h' e => c_X7_within E x9 (0 : Int32) ((h10.1 q12 (x8).toNatClampNeg) - (1 : Int32)) h10 e) (by decide) (by decide) (Nat.le_of_ble_eq_true rfl) dX7_cell_77 (fun r14 h13 _ => ?_)
    refine g_if_ne C 89 dX7_cell_80 (by decide) (fun hc18 => ?_) (fun hc18 => ?_)
    · refine g_aload_n (i := 0) C dX7_cell_83 rfl rfl ?_
      refine g_iconst (v := 3) C dX7_cell_84 (by decide) ?_
      refine g_cVl1 C cf_X7_216 cv_X7_lost eq7 (fun r h' e => c_X7_lost E q7 (3 : Int32) eq7 h13 e) (by decide) (by decide) (Nat.le_of_ble_eq_true rfl) dX7_cell_85 (fun r17 h16 _ => ?_)
      exact g_lret C dX7_cell_88
    · refine g_aload_n (i := 0) C dX7_cell_89 rfl rfl ?_
      refine g_getA C f_X7_16 eq7 dX7_cell_90 (fun q15 _ => ?_)
      refine g_bipush (v := 60) C dX7_cell_93 (by decide) ?_
      refine g_iload_n (i := 1) C dX7_cell_95 rfl rfl ?_
      refine g_imul C dX7_cell_96 ?_
      refine g_iload_n (i := 2) C dX7_cell_97 rfl rfl ?_
      refine g_iadd C dX7_cell_98 ?_
      refine g_iald C dX7_cell_99 ?_
      refine g_i2l C dX7_cell_100 ?_
      exact g_lret C dX7_cell_101
set_option maxHeartbeats 4000000 in
set_option maxRecDepth 100000 in
theorem c_X7_cell (E : Ev) (o : Nat) (p0 : Int32) (p1 : Int32) (p2 : Int32) (eo : isO shM o 7 = true) (h : Hp) {r : Int64} {h' : Hp} (e : F_X7_cell o p0 p1 p2 h = some (r, h')) : Ctr E shM yX7_cell cX7_cell 4 (some .long) 3 [.ref (E.2.2.2 + o), .int p0, .int p1, .int p2] h (vl r) h' := by
  refine Ctr.ofG (val := vl) e (by decide) (Nat.le_of_ble_eq_true rfl) [some (.ref (E.2.2.2 + o)), some (.int p0), some (.int p1), some (.int p2)] rfl (fun X C => ?_)
  unfold F_X7_cell
  refine g_aload_n (i := 0) C dX7_cell_0 rfl rfl ?_
  refine g_iconst (v := 0) C dX7_cell_1 (by decide) ?_
  refine g_putI C f_X7_73 eo dX7_cell_2 (fun h1 => ?_)
  refine g_iload_n (i := 1) C dX7_cell_5 rfl rfl ?_
  refine g_cSi1 C cf_X7_95 aw_30 (fun r h' e => c_X7_isSheet E p0 h1 e) (by decide) (by decide) (Nat.le_of_ble_eq_true rfl) dX7_cell_6 (fun r3 h2 _ => ?_)
  refine g_if_eq C 19 dX7_cell_9 (by decide) (fun hc28 => ?_) (fun hc28 => ?_)
  · refine g_ldc2 (v := -9223372036854775808) C dX7_cell_19 aw_28 ?_
    exact g_lret C dX7_cell_22
  · refine g_iload_n (i := 3) C dX7_cell_12 rfl rfl ?_
    refine g_cSi1 C cf_X7_99 aw_29 (fun r h' e => c_X7_isSort E p2 h2 e) (by decide) (by decide) (Nat.le_of_ble_eq_true rfl) dX7_cell_13 (fun r5 h4 _ => ?_)
    refine g_if_ne C 23 dX7_cell_16 (by decide) (fun hc27 => ?_) (fun hc27 => ?_)
    · refine g_ldc2 (v := -9223372036854775808) C dX7_cell_19 aw_28 ?_
      exact g_lret C dX7_cell_22
    · refine g_aload_n (i := 0) C dX7_cell_23 rfl rfl ?_
      refine g_getA C f_X7_9 eo dX7_cell_24 (fun q6 _ => ?_)
      refine g_iload_n (i := 1) C dX7_cell_27 rfl rfl ?_
      refine g_iald C dX7_cell_28 ?_
      refine g_bipush (v := -9) C dX7_cell_29 (by decide) ?_
      refine g_icmp_eq C 50 dX7_cell_31 (by decide) (fun hc26 => ?_) (fun hc26 => ?_)
      · refine g_drop (i := 3) [some (.ref (E.2.2.2 + o)), some (.int p0), some (.int p1), none] rfl ?_
        exact G_F_X7_cell_J50 C o p0 p1 eo h4
      · refine g_aload_n (i := 0) C dX7_cell_34 rfl rfl ?_
        refine g_getA C f_X7_9 eo dX7_cell_35 (fun q22 _ => ?_)
        refine g_iload_n (i := 1) C dX7_cell_38 rfl rfl ?_
        refine g_iald C dX7_cell_39 ?_
        refine g_iload_n (i := 3) C dX7_cell_40 rfl rfl ?_
        refine g_icmp_eq C 50 dX7_cell_41 (by decide) (fun hc25 => ?_) (fun hc25 => ?_)
        · refine g_drop (i := 3) [some (.ref (E.2.2.2 + o)), some (.int p0), some (.int p1), none] rfl ?_
          exact G_F_X7_cell_J50 C o p0 p1 eo h4
        · refine g_aload_n (i := 0) C dX7_cell_44 rfl rfl ?_
          refine g_iconst (v := 2) C dX7_cell_45 (by decide) ?_
          refine g_cVl1 C cf_X7_216 cv_X7_lost eo (fun r h' e => c_X7_lost E o (2 : Int32) eo h4 e) (by decide) (by decide) (Nat.le_of_ble_eq_true rfl) dX7_cell_46 (fun r24 h23 _ => ?_)
          exact g_lret C dX7_cell_49
set_option maxHeartbeats 4000000 in
set_option maxRecDepth 100000 in
theorem G_F_X7_common_L16 {E : Ev} {X : Cx} (C : Ok E X cX7_common RX7 3 (some .int) 4) (q1 : Nat) (eq1 : isO shM q1 7 = true) : ∀ (N : Nat) (x2 : Int32) (x3 : Int32) (h4 : Hp), G E shM X vi 16 [some (.ref (E.2.2.2 + q1)), some (.int x2), some (.int x3)] [] h4 (F_X7_common_L16 q1 N x2 x3 h4) := by
  intro N
  induction N with
  | zero =>
    intro _ _ _
    exact g_none
  | succ N ih =>
    intro x2 x3 h4
    rw [F_X7_common_L16]
    refine g_iload_n (i := 2) C dX7_common_16 rfl rfl ?_
    refine g_aload_n (i := 0) C dX7_common_17 rfl rfl ?_
    refine g_getI C f_X7_83 eq1 dX7_common_18 ?_
    refine g_icmp_ge C 44 dX7_common_21 (by decide) (fun hc11 => ?_) (fun hc11 => ?_)
    · refine g_iload_n (i := 1) C dX7_common_44 rfl rfl ?_
      exact g_ireti C dX7_common_45
    · refine g_iload_n (i := 1) C dX7_common_24 rfl rfl ?_
      refine g_aload_n (i := 0) C dX7_common_25 rfl rfl ?_
      refine g_aload_n (i := 0) C dX7_common_26 rfl rfl ?_
      refine g_iload_n (i := 2) C dX7_common_27 rfl rfl ?_
      refine g_cVi1 C cf_X7_170 cv_X7_heardBy eq1 (fun r h' e => c_X7_heardBy E q1 x3 eq1 h4 e) (by decide) (by decide) (Nat.le_of_ble_eq_true rfl) dX7_common_28 (fun r6 h5 _ => ?_)
      refine g_bipush (v := 8) C dX7_common_31 (by decide) ?_
      refine g_cVi2 C cf_X7_182 cv_X7_wordsOf eq1 (fun r h' e => c_X7_wordsOf E q1 r6 (8 : Int32) eq1 h5 e) (by decide) (by decide) (Nat.le_of_ble_eq_true rfl) dX7_common_33 (fun r8 h7 _ => ?_)
      refine g_iand C dX7_common_36 ?_
      refine g_topi (fun x9 => ?_)
      refine g_istore_n (i := 1) C [some (.ref (E.2.2.2 + q1)), some (.int x9), some (.int x3)] dX7_common_37 rfl (by decide) rfl rfl ?_
      refine g_iinc (i := 2) (w := 1) C (fun yy => [some (.ref (E.2.2.2 + q1)), some (.int x9), some (.int yy)]) dX7_common_38 rfl (by decide) rfl (by decide) rfl (fun _ => rfl) (fun x10 => ?_)
      refine g_goto C 16 dX7_common_41 (by decide) ?_
      exact ih x9 x10 h7
set_option maxHeartbeats 4000000 in
set_option maxRecDepth 100000 in
theorem c_X7_common (E : Ev) (o : Nat) (eo : isO shM o 7 = true) (h : Hp) {r : Int32} {h' : Hp} (e : F_X7_common o h = some (r, h')) : Ctr E shM yX7_common cX7_common 3 (some .int) 4 [.ref (E.2.2.2 + o)] h (vi r) h' := by
  refine Ctr.ofG (val := vi) e (by decide) (Nat.le_of_ble_eq_true rfl) [some (.ref (E.2.2.2 + o)), none, none] rfl (fun X C => ?_)
  unfold F_X7_common
  refine g_aload_n (i := 0) C dX7_common_0 rfl rfl ?_
  refine g_getI C f_X7_89 eo dX7_common_1 ?_
  refine g_if_ne C 10 dX7_common_4 (by decide) (fun hc12 => ?_) (fun hc12 => ?_)
  · refine g_bipush (v := -3) C dX7_common_7 (by decide) ?_
    exact g_ireti C dX7_common_9
  · refine g_sipush (v := 255) C dX7_common_10 (by decide) ?_
    refine g_istore_n (i := 1) C [some (.ref (E.2.2.2 + o)), some (.int (255 : Int32)), none] dX7_common_13 rfl (by decide) rfl rfl ?_
    refine g_iconst (v := 0) C dX7_common_14 (by decide) ?_
    refine g_istore_n (i := 2) C [some (.ref (E.2.2.2 + o)), some (.int (255 : Int32)), some (.int (0 : Int32))] dX7_common_15 rfl (by decide) rfl rfl ?_
    exact G_F_X7_common_L16 C o eo FU (255 : Int32) (0 : Int32) h
set_option maxHeartbeats 4000000 in
set_option maxRecDepth 100000 in
theorem G_F_X7_copy_J43 {E : Ev} {X : Cx} (C : Ok E X cX7_copy RX7 10 (some .int) 3) (q7 : Nat) (eq7 : isO shM q7 7 = true) (h8 : Hp) : G E shM X vi 43 [some (.ref (E.2.2.2 + q7)), none, none, none, none, none, none, none, none, none] [] h8 (F_X7_copy_J43 q7 h8) := by
  unfold F_X7_copy_J43
  refine g_aload_n (i := 0) C dX7_copy_43 rfl rfl ?_
  refine g_iconst (v := 1) C dX7_copy_44 (by decide) ?_
  refine g_cVi1 C cf_X7_106 cv_X7_fails eq7 (fun r h' e => c_X7_fails E q7 (1 : Int32) eq7 h8 e) (by decide) (by decide) (Nat.le_of_ble_eq_true rfl) dX7_copy_45 (fun r10 h9 _ => ?_)
  exact g_ireti C dX7_copy_48
set_option maxHeartbeats 4000000 in
set_option maxRecDepth 100000 in
theorem G_F_X7_copy_J144 {E : Ev} {X : Cx} (C : Ok E X cX7_copy RX7 10 (some .int) 3) (q29 : Nat) (eq29 : isO shM q29 7 = true) (h30 : Hp) : G E shM X vi 144 [some (.ref (E.2.2.2 + q29)), none, none, none, none, none, none, none, none, none] [] h30 (F_X7_copy_J144 q29 h30) := by
  unfold F_X7_copy_J144
  refine g_aload_n (i := 0) C dX7_copy_144 rfl rfl ?_
  refine g_iconst (v := 3) C dX7_copy_145 (by decide) ?_
  refine g_cVi1 C cf_X7_106 cv_X7_fails eq29 (fun r h' e => c_X7_fails E q29 (3 : Int32) eq29 h30 e) (by decide) (by decide) (Nat.le_of_ble_eq_true rfl) dX7_copy_146 (fun r32 h31 _ => ?_)
  exact g_ireti C dX7_copy_149
set_option maxHeartbeats 4000000 in
set_option maxRecDepth 100000 in
theorem G_F_X7_copy_J190 {E : Ev} {X : Cx} (C : Ok E X cX7_copy RX7 10 (some .int) 3) (k166 : Int32 → Hp → Option (Int32 × Hp)) (q43 : Nat) (x44 : Int32) (x45 : Int32) (x46 : Int32) (x47 : Int32) (x48 : Int32) (x49 : Int32) (x59 : Int32) (y60 : Int32) (hk166 : ∀ (z8 : Int32) (hh : Hp), G E shM X vi 166 [some (.ref (E.2.2.2 + q43)), some (.int x44), some (.int x45), some (.int x46), some (.int x47), some (.int x48), none, some (.int x49), some (.int z8), none] [] hh (k166 z8 hh)) (eq43 : isO shM q43 7 = true) (h61 : Hp) : G E shM X vi 190 [some (.ref (E.2.2.2 + q43)), some (.int x44), some (.int x45), some (.int x46), some (.int x47), some (.int x48), none, some (.int x49), some (.int x59), none] [.int y60] h61 (F_X7_copy_J190 k166 q43 x44 x45 x46 x47 x48 x49 x59 y60 h61) := by
  unfold F_X7_copy_J190
  refine g_istore (i := 9) C [some (.ref (E.2.2.2 + q43)), some (.int x44), some (.int x45), some (.int x46), some (.int x47), some (.int x48), none, some (.int x49), some (.int x59), some (.int y60)] dX7_copy_190 (by decide) rfl rfl ?_
  refine g_aload_n (i := 0) C dX7_copy_192 rfl rfl ?_
  refine g_getA C f_X7_16 eq43 dX7_copy_193 (fun q62 _ => ?_)
  refine g_bipush (v := 60) C dX7_copy_196 (by decide) ?_
  refine g_iload_n (i := 3) C dX7_copy_198 rfl rfl ?_
  refine g_imul C dX7_copy_199 ?_
  refine g_iload (i := 4) C dX7_copy_200 rfl ?_
  refine g_iadd C dX7_copy_202 ?_
  refine g_iload (i := 9) C dX7_copy_203 rfl ?_
  refine g_iadd C dX7_copy_205 ?_
  refine g_aload_n (i := 0) C dX7_copy_206 rfl rfl ?_
  refine g_getA C f_X7_16 eq43 dX7_copy_207 (fun q63 _ => ?_)
  refine g_bipush (v := 60) C dX7_copy_210 (by decide) ?_
  refine g_iload_n (i := 1) C dX7_copy_212 rfl rfl ?_
  refine g_imul C dX7_copy_213 ?_
  refine g_iload_n (i := 2) C dX7_copy_214 rfl rfl ?_
  refine g_iadd C dX7_copy_215 ?_
  refine g_iload (i := 9) C dX7_copy_216 rfl ?_
  refine g_iadd C dX7_copy_218 ?_
  refine g_iald C dX7_copy_219 ?_
  refine g_iast C dX7_copy_220 (fun h64 => ?_)
  refine g_iinc (i := 8) (w := 1) C (fun yy => [some (.ref (E.2.2.2 + q43)), some (.int x44), some (.int x45), some (.int x46), some (.int x47), some (.int x48), none, some (.int x49), some (.int yy), some (.int y60)]) dX7_copy_221 rfl (by decide) rfl (by decide) rfl (fun _ => rfl) (fun x65 => ?_)
  refine g_goto C 166 dX7_copy_224 (by decide) ?_
  refine g_drop (i := 9) [some (.ref (E.2.2.2 + q43)), some (.int x44), some (.int x45), some (.int x46), some (.int x47), some (.int x48), none, some (.int x49), some (.int x65), none] rfl ?_
  exact hk166 x65 h64
set_option maxHeartbeats 4000000 in
set_option maxRecDepth 100000 in
theorem G_F_X7_copy_L166 {E : Ev} {X : Cx} (C : Ok E X cX7_copy RX7 10 (some .int) 3) (q43 : Nat) (x44 : Int32) (x45 : Int32) (x46 : Int32) (x47 : Int32) (x48 : Int32) (x49 : Int32) (eq43 : isO shM q43 7 = true) : ∀ (N : Nat) (x50 : Int32) (h51 : Hp), G E shM X vi 166 [some (.ref (E.2.2.2 + q43)), some (.int x44), some (.int x45), some (.int x46), some (.int x47), some (.int x48), none, some (.int x49), some (.int x50), none] [] h51 (F_X7_copy_L166 q43 x44 x45 x46 x47 x48 x49 N x50 h51) := by
  intro N
  induction N with
  | zero =>
    intro _ _
    exact g_none
  | succ N ih =>
    intro x50 h51
    rw [F_X7_copy_L166]
    refine g_iload (i := 8) C dX7_copy_166 rfl ?_
    refine g_iload (i := 5) C dX7_copy_168 rfl ?_
    refine g_icmp_ge C 227 dX7_copy_170 (by decide) (fun hc67 => ?_) (fun hc67 => ?_)
    · refine g_iload (i := 5) C dX7_copy_227 rfl ?_
      exact g_ireti C dX7_copy_229
    · refine g_iload (i := 7) C dX7_copy_173 rfl ?_
      refine g_if_eq C 188 dX7_copy_175 (by decide) (fun hc66 => ?_) (fun hc66 => ?_)
      · refine g_iload (i := 8) C dX7_copy_188 rfl ?_
        exact G_F_X7_copy_J190 C (F_X7_copy_L166 q43 x44 x45 x46 x47 x48 x49 N) q43 x44 x45 x46 x47 x48 x49 x50 x50 (ih) eq43 h51
      · refine g_iload (i := 5) C dX7_copy_178 rfl ?_
        refine g_iconst (v := 1) C dX7_copy_180 (by decide) ?_
        refine g_isub C dX7_copy_181 ?_
        refine g_iload (i := 8) C dX7_copy_182 rfl ?_
        refine g_isub C dX7_copy_184 ?_
        refine g_goto C 190 dX7_copy_185 (by decide) ?_
        exact G_F_X7_copy_J190 C (F_X7_copy_L166 q43 x44 x45 x46 x47 x48 x49 N) q43 x44 x45 x46 x47 x48 x49 x50 ((x48 - (1 : Int32)) - x50) (ih) eq43 h51
set_option maxHeartbeats 4000000 in
set_option maxRecDepth 100000 in
theorem G_F_X7_copy_J161 {E : Ev} {X : Cx} (C : Ok E X cX7_copy RX7 10 (some .int) 3) (q35 : Nat) (x36 : Int32) (x37 : Int32) (x38 : Int32) (x39 : Int32) (x40 : Int32) (y41 : Int32) (eq35 : isO shM q35 7 = true) (h42 : Hp) : G E shM X vi 161 [some (.ref (E.2.2.2 + q35)), some (.int x36), some (.int x37), some (.int x38), some (.int x39), some (.int x40), none, none, none, none] [.int y41] h42 (F_X7_copy_J161 q35 x36 x37 x38 x39 x40 y41 h42) := by
  unfold F_X7_copy_J161
  refine g_istore (i := 7) C [some (.ref (E.2.2.2 + q35)), some (.int x36), some (.int x37), some (.int x38), some (.int x39), some (.int x40), none, some (.int y41), none, none] dX7_copy_161 (by decide) rfl rfl ?_
  refine g_iconst (v := 0) C dX7_copy_163 (by decide) ?_
  refine g_istore (i := 8) C [some (.ref (E.2.2.2 + q35)), some (.int x36), some (.int x37), some (.int x38), some (.int x39), some (.int x40), none, some (.int y41), some (.int (0 : Int32)), none] dX7_copy_164 (by decide) rfl rfl ?_
  exact G_F_X7_copy_L166 C q35 x36 x37 x38 x39 x40 y41 eq35 FU (0 : Int32) h42
set_option maxHeartbeats 4000000 in
set_option maxRecDepth 100000 in
theorem G_F_X7_copy_J110 {E : Ev} {X : Cx} (C : Ok E X cX7_copy RX7 10 (some .int) 3) (q21 : Nat) (x22 : Int32) (x23 : Int32) (x24 : Int32) (x25 : Int32) (x26 : Int32) (y27 : Int32) (eq21 : isO shM q21 7 = true) (h28 : Hp) : G E shM X vi 110 [some (.ref (E.2.2.2 + q21)), some (.int x22), some (.int x23), some (.int x24), some (.int x25), some (.int x26), none, none, none, none] [.int y27] h28 (F_X7_copy_J110 q21 x22 x23 x24 x25 x26 y27 h28) := by
  unfold F_X7_copy_J110
  refine g_istore (i := 6) C [some (.ref (E.2.2.2 + q21)), some (.int x22), some (.int x23), some (.int x24), some (.int x25), some (.int x26), some (.int y27), none, none, none] dX7_copy_110 (by decide) rfl rfl ?_
  refine g_iload (i := 6) C dX7_copy_112 rfl ?_
  refine g_if_eq C 144 dX7_copy_114 (by decide) (fun hc71 => ?_) (fun hc71 => ?_)
  · refine g_drop (i := 1) [some (.ref (E.2.2.2 + q21)), none, some (.int x23), some (.int x24), some (.int x25), some (.int x26), some (.int y27), none, none, none] rfl ?_
    refine g_drop (i := 2) [some (.ref (E.2.2.2 + q21)), none, none, some (.int x24), some (.int x25), some (.int x26), some (.int y27), none, none, none] rfl ?_
    refine g_drop (i := 3) [some (.ref (E.2.2.2 + q21)), none, none, none, some (.int x25), some (.int x26), some (.int y27), none, none, none] rfl ?_
    refine g_drop (i := 4) [some (.ref (E.2.2.2 + q21)), none, none, none, none, some (.int x26), some (.int y27), none, none, none] rfl ?_
    refine g_drop (i := 5) [some (.ref (E.2.2.2 + q21)), none, none, none, none, none, some (.int y27), none, none, none] rfl ?_
    refine g_drop (i := 6) [some (.ref (E.2.2.2 + q21)), none, none, none, none, none, none, none, none, none] rfl ?_
    exact G_F_X7_copy_J144 C q21 eq21 h28
  · refine g_iload (i := 5) C dX7_copy_117 rfl ?_
    refine g_aload_n (i := 0) C dX7_copy_119 rfl rfl ?_
    refine g_getA C f_X7_13 eq21 dX7_copy_120 (fun q33 _ => ?_)
    refine g_iload_n (i := 1) C dX7_copy_123 rfl rfl ?_
    refine g_iald C dX7_copy_124 ?_
    refine g_iload_n (i := 2) C dX7_copy_125 rfl rfl ?_
    refine g_isub C dX7_copy_126 ?_
    refine g_icmp_gt C 144 dX7_copy_127 (by decide) (fun hc70 => ?_) (fun hc70 => ?_)
    · refine g_drop (i := 1) [some (.ref (E.2.2.2 + q21)), none, some (.int x23), some (.int x24), some (.int x25), some (.int x26), some (.int y27), none, none, none] rfl ?_
      refine g_drop (i := 2) [some (.ref (E.2.2.2 + q21)), none, none, some (.int x24), some (.int x25), some (.int x26), some (.int y27), none, none, none] rfl ?_
      refine g_drop (i := 3) [some (.ref (E.2.2.2 + q21)), none, none, none, some (.int x25), some (.int x26), some (.int y27), none, none, none] rfl ?_
      refine g_drop (i := 4) [some (.ref (E.2.2.2 + q21)), none, none, none, none, some (.int x26), some (.int y27), none, none, none] rfl ?_
      refine g_drop (i := 5) [some (.ref (E.2.2.2 + q21)), none, none, none, none, none, some (.int y27), none, none, none] rfl ?_
      refine g_drop (i := 6) [some (.ref (E.2.2.2 + q21)), none, none, none, none, none, none, none, none, none] rfl ?_
      exact G_F_X7_copy_J144 C q21 eq21 h28
    · refine g_iload (i := 5) C dX7_copy_130 rfl ?_
      refine g_aload_n (i := 0) C dX7_copy_132 rfl rfl ?_
      refine g_getA C f_X7_13 eq21 dX7_copy_133 (fun q34 _ => ?_)
      refine g_iload_n (i := 3) C dX7_copy_136 rfl rfl ?_
      refine g_iald C dX7_copy_137 ?_
      refine g_iload (i := 4) C dX7_copy_138 rfl ?_
      refine g_isub C dX7_copy_140 ?_
      refine g_icmp_le C 150 dX7_copy_141 (by decide) (fun hc69 => ?_) (fun hc69 => ?_)
      · refine g_iload_n (i := 2) C dX7_copy_150 rfl rfl ?_
        refine g_iload (i := 4) C dX7_copy_151 rfl ?_
        refine g_icmp_ge C 160 dX7_copy_153 (by decide) (fun hc68 => ?_) (fun hc68 => ?_)
        · refine g_iconst (v := 0) C dX7_copy_160 (by decide) ?_
          refine g_drop (i := 6) [some (.ref (E.2.2.2 + q21)), some (.int x22), some (.int x23), some (.int x24), some (.int x25), some (.int x26), none, none, none, none] rfl ?_
          exact G_F_X7_copy_J161 C q21 x22 x23 x24 x25 x26 (0 : Int32) eq21 h28
        · refine g_iconst (v := 1) C dX7_copy_156 (by decide) ?_
          refine g_goto C 161 dX7_copy_157 (by decide) ?_
          refine g_drop (i := 6) [some (.ref (E.2.2.2 + q21)), some (.int x22), some (.int x23), some (.int x24), some (.int x25), some (.int x26), none, none, none, none] rfl ?_
          exact G_F_X7_copy_J161 C q21 x22 x23 x24 x25 x26 (1 : Int32) eq21 h28
      · refine g_drop (i := 1) [some (.ref (E.2.2.2 + q21)), none, some (.int x23), some (.int x24), some (.int x25), some (.int x26), some (.int y27), none, none, none] rfl ?_
        refine g_drop (i := 2) [some (.ref (E.2.2.2 + q21)), none, none, some (.int x24), some (.int x25), some (.int x26), some (.int y27), none, none, none] rfl ?_
        refine g_drop (i := 3) [some (.ref (E.2.2.2 + q21)), none, none, none, some (.int x25), some (.int x26), some (.int y27), none, none, none] rfl ?_
        refine g_drop (i := 4) [some (.ref (E.2.2.2 + q21)), none, none, none, none, some (.int x26), some (.int y27), none, none, none] rfl ?_
        refine g_drop (i := 5) [some (.ref (E.2.2.2 + q21)), none, none, none, none, none, some (.int y27), none, none, none] rfl ?_
        refine g_drop (i := 6) [some (.ref (E.2.2.2 + q21)), none, none, none, none, none, none, none, none, none] rfl ?_
        exact G_F_X7_copy_J144 C q21 eq21 h28
set_option maxHeartbeats 4000000 in
set_option maxRecDepth 100000 in
theorem G_F_X7_copy_J109 {E : Ev} {X : Cx} (C : Ok E X cX7_copy RX7 10 (some .int) 3) (q14 : Nat) (x15 : Int32) (x16 : Int32) (x17 : Int32) (x18 : Int32) (x19 : Int32) (eq14 : isO shM q14 7 = true) (h20 : Hp) : G E shM X vi 109 [some (.ref (E.2.2.2 + q14)), some (.int x15), some (.int x16), some (.int x17), some (.int x18), some (.int x19), none, none, none, none] [] h20 (F_X7_copy_J109 q14 x15 x16 x17 x18 x19 h20) := by
  unfold F_X7_copy_J109
  refine g_iconst (v := 0) C dX7_copy_109 (by decide) ?_
  exact G_F_X7_copy_J110 C q14 x15 x16 x17 x18 x19 (0 : Int32) eq14 h20
set_option maxHeartbeats 4000000 in
set_option maxRecDepth 100000 in
theorem c_X7_copy (E : Ev) (o : Nat) (p0 : Int32) (p1 : Int32) (p2 : Int32) (p3 : Int32) (p4 : Int32) (eo : isO shM o 7 = true) (h : Hp) {r : Int32} {h' : Hp} (e : F_X7_copy o p0 p1 p2 p3 p4 h = some (r, h')) : Ctr E shM yX7_copy cX7_copy 10 (some .int) 3 [.ref (E.2.2.2 + o), .int p0, .int p1, .int p2, .int p3, .int p4] h (vi r) h' := by
  refine Ctr.ofG (val := vi) e (by decide) (Nat.le_of_ble_eq_true rfl) [some (.ref (E.2.2.2 + o)), some (.int p0), some (.int p1), some (.int p2), some (.int p3), some (.int p4), none, none, none, none] rfl (fun X C => ?_)
  unfold F_X7_copy
  refine g_aload_n (i := 0) C dX7_copy_0 rfl rfl ?_
  refine g_iconst (v := 0) C dX7_copy_1 (by decide) ?_
  refine g_putI C f_X7_73 eo dX7_copy_2 (fun h1 => ?_)
  refine g_iload_n (i := 1) C dX7_copy_5 rfl rfl ?_
  refine g_cSi1 C cf_X7_95 aw_30 (fun r h' e => c_X7_isSheet E p0 h1 e) (by decide) (by decide) (Nat.le_of_ble_eq_true rfl) dX7_copy_6 (fun r3 h2 _ => ?_)
  refine g_if_eq C 19 dX7_copy_9 (by decide) (fun hc85 => ?_) (fun hc85 => ?_)
  · refine g_iconst (v := -1) C dX7_copy_19 (by decide) ?_
    exact g_ireti C dX7_copy_20
  · refine g_iload_n (i := 3) C dX7_copy_12 rfl rfl ?_
    refine g_cSi1 C cf_X7_95 aw_30 (fun r h' e => c_X7_isSheet E p2 h2 e) (by decide) (by decide) (Nat.le_of_ble_eq_true rfl) dX7_copy_13 (fun r5 h4 _ => ?_)
    refine g_if_ne C 21 dX7_copy_16 (by decide) (fun hc84 => ?_) (fun hc84 => ?_)
    · refine g_iconst (v := -1) C dX7_copy_19 (by decide) ?_
      exact g_ireti C dX7_copy_20
    · refine g_aload_n (i := 0) C dX7_copy_21 rfl rfl ?_
      refine g_getA C f_X7_9 eo dX7_copy_22 (fun q6 _ => ?_)
      refine g_iload_n (i := 1) C dX7_copy_25 rfl rfl ?_
      refine g_iald C dX7_copy_26 ?_
      refine g_bipush (v := -9) C dX7_copy_27 (by decide) ?_
      refine g_icmp_eq C 43 dX7_copy_29 (by decide) (fun hc83 => ?_) (fun hc83 => ?_)
      · refine g_drop (i := 1) [some (.ref (E.2.2.2 + o)), none, some (.int p1), some (.int p2), some (.int p3), some (.int p4), none, none, none, none] rfl ?_
        refine g_drop (i := 2) [some (.ref (E.2.2.2 + o)), none, none, some (.int p2), some (.int p3), some (.int p4), none, none, none, none] rfl ?_
        refine g_drop (i := 3) [some (.ref (E.2.2.2 + o)), none, none, none, some (.int p3), some (.int p4), none, none, none, none] rfl ?_
        refine g_drop (i := 4) [some (.ref (E.2.2.2 + o)), none, none, none, none, some (.int p4), none, none, none, none] rfl ?_
        refine g_drop (i := 5) [some (.ref (E.2.2.2 + o)), none, none, none, none, none, none, none, none, none] rfl ?_
        exact G_F_X7_copy_J43 C o eo h4
      · refine g_aload_n (i := 0) C dX7_copy_32 rfl rfl ?_
        refine g_getA C f_X7_9 eo dX7_copy_33 (fun q11 _ => ?_)
        refine g_iload_n (i := 3) C dX7_copy_36 rfl rfl ?_
        refine g_iald C dX7_copy_37 ?_
        refine g_bipush (v := -9) C dX7_copy_38 (by decide) ?_
        refine g_icmp_ne C 49 dX7_copy_40 (by decide) (fun hc82 => ?_) (fun hc82 => ?_)
        · refine g_drop (i := 1) [some (.ref (E.2.2.2 + o)), none, some (.int p1), some (.int p2), some (.int p3), some (.int p4), none, none, none, none] rfl ?_
          refine g_drop (i := 2) [some (.ref (E.2.2.2 + o)), none, none, some (.int p2), some (.int p3), some (.int p4), none, none, none, none] rfl ?_
          refine g_drop (i := 3) [some (.ref (E.2.2.2 + o)), none, none, none, some (.int p3), some (.int p4), none, none, none, none] rfl ?_
          refine g_drop (i := 4) [some (.ref (E.2.2.2 + o)), none, none, none, none, some (.int p4), none, none, none, none] rfl ?_
          refine g_drop (i := 5) [some (.ref (E.2.2.2 + o)), none, none, none, none, none, none, none, none, none] rfl ?_
          exact G_F_X7_copy_J43 C o eo h4
        · refine g_aload_n (i := 0) C dX7_copy_49 rfl rfl ?_
          refine g_getA C f_X7_9 eo dX7_copy_50 (fun q12 _ => ?_)
          refine g_iload_n (i := 1) C dX7_copy_53 rfl rfl ?_
          refine g_iald C dX7_copy_54 ?_
          refine g_aload_n (i := 0) C dX7_copy_55 rfl rfl ?_
          refine g_getA C f_X7_9 eo dX7_copy_56 (fun q13 _ => ?_)
          refine g_iload_n (i := 3) C dX7_copy_59 rfl rfl ?_
          refine g_iald C dX7_copy_60 ?_
          refine g_icmp_eq C 70 dX7_copy_61 (by decide) (fun hc81 => ?_) (fun hc81 => ?_)
          · refine g_iload_n (i := 2) C dX7_copy_70 rfl rfl ?_
            refine g_if_lt C 109 dX7_copy_71 (by decide) (fun hc78 => ?_) (fun hc78 => ?_)
            · exact G_F_X7_copy_J109 C o p0 p1 p2 p3 p4 eo h4
            · refine g_iload (i := 4) C dX7_copy_74 rfl ?_
              refine g_if_lt C 109 dX7_copy_76 (by decide) (fun hc77 => ?_) (fun hc77 => ?_)
              · exact G_F_X7_copy_J109 C o p0 p1 p2 p3 p4 eo h4
              · refine g_iload (i := 5) C dX7_copy_79 rfl ?_
                refine g_if_lt C 109 dX7_copy_81 (by decide) (fun hc76 => ?_) (fun hc76 => ?_)
                · exact G_F_X7_copy_J109 C o p0 p1 p2 p3 p4 eo h4
                · refine g_iload_n (i := 2) C dX7_copy_84 rfl rfl ?_
                  refine g_aload_n (i := 0) C dX7_copy_85 rfl rfl ?_
                  refine g_getA C f_X7_13 eo dX7_copy_86 (fun q72 _ => ?_)
                  refine g_iload_n (i := 1) C dX7_copy_89 rfl rfl ?_
                  refine g_iald C dX7_copy_90 ?_
                  refine g_icmp_gt C 109 dX7_copy_91 (by decide) (fun hc75 => ?_) (fun hc75 => ?_)
                  · exact G_F_X7_copy_J109 C o p0 p1 p2 p3 p4 eo h4
                  · refine g_iload (i := 4) C dX7_copy_94 rfl ?_
                    refine g_aload_n (i := 0) C dX7_copy_96 rfl rfl ?_
                    refine g_getA C f_X7_13 eo dX7_copy_97 (fun q73 _ => ?_)
                    refine g_iload_n (i := 3) C dX7_copy_100 rfl rfl ?_
                    refine g_iald C dX7_copy_101 ?_
                    refine g_icmp_gt C 109 dX7_copy_102 (by decide) (fun hc74 => ?_) (fun hc74 => ?_)
                    · exact G_F_X7_copy_J109 C o p0 p1 p2 p3 p4 eo h4
                    · refine g_iconst (v := 1) C dX7_copy_105 (by decide) ?_
                      refine g_goto C 110 dX7_copy_106 (by decide) ?_
                      exact G_F_X7_copy_J110 C o p0 p1 p2 p3 p4 (1 : Int32) eo h4
          · refine g_aload_n (i := 0) C dX7_copy_64 rfl rfl ?_
            refine g_iconst (v := 2) C dX7_copy_65 (by decide) ?_
            refine g_cVi1 C cf_X7_106 cv_X7_fails eo (fun r h' e => c_X7_fails E o (2 : Int32) eo h4 e) (by decide) (by decide) (Nat.le_of_ble_eq_true rfl) dX7_copy_66 (fun r80 h79 _ => ?_)
            exact g_ireti C dX7_copy_69
set_option maxHeartbeats 4000000 in
set_option maxRecDepth 100000 in
theorem G_F_X7_cuts_L91 {E : Ev} {X : Cx} (C : Ok E X cX7_cuts RX7 12 (some .int) 4) (k151 : Hp → Option (Int32 × Hp)) (q13 : Nat) (x14 : Int32) (x15 : Int32) (x16 : Int32) (hk151 : ∀ (hh : Hp), G E shM X vi 151 [some (.ref (E.2.2.2 + q13)), none, none, none, some (.int x14), some (.int x15), none, some (.int x16), none, none, none, none] [] hh (k151 hh)) (eq13 : isO shM q13 7 = true) : ∀ (N : Nat) (x17 : Int32) (h18 : Hp), G E shM X vi 91 [some (.ref (E.2.2.2 + q13)), none, none, none, some (.int x14), some (.int x15), none, some (.int x16), some (.int x17), none, none, none] [] h18 (F_X7_cuts_L91 k151 q13 x14 x15 x16 N x17 h18) := by
  intro N
  induction N with
  | zero =>
    intro _ _
    exact g_none
  | succ N ih =>
    intro x17 h18
    rw [F_X7_cuts_L91]
    refine g_iload (i := 8) C dX7_cuts_91 rfl ?_
    refine g_iload (i := 4) C dX7_cuts_93 rfl ?_
    refine g_icmp_ge C 151 dX7_cuts_95 (by decide) (fun hc28 => ?_) (fun hc28 => ?_)
    · refine g_drop (i := 8) [some (.ref (E.2.2.2 + q13)), none, none, none, some (.int x14), some (.int x15), none, some (.int x16), none, none, none, none] rfl ?_
      exact hk151 h18
    · refine g_aload_n (i := 0) C dX7_cuts_98 rfl rfl ?_
      refine g_aload_n (i := 0) C dX7_cuts_99 rfl rfl ?_
      refine g_getA C f_X7_16 eq13 dX7_cuts_100 (fun q19 _ => ?_)
      refine g_iload (i := 7) C dX7_cuts_103 rfl ?_
      refine g_iconst (v := 2) C dX7_cuts_105 (by decide) ?_
      refine g_iload (i := 8) C dX7_cuts_106 rfl ?_
      refine g_imul C dX7_cuts_108 ?_
      refine g_iadd C dX7_cuts_109 ?_
      refine g_iald C dX7_cuts_110 ?_
      refine g_cVi1 C cf_X7_145 cv_X7_isCheese eq13 (fun r h' e => c_X7_isCheese E q13 (h18.1 q19 ((x16 + ((2 : Int32) * x17))).toNatClampNeg) eq13 h18 e) (by decide) (by decide) (Nat.le_of_ble_eq_true rfl) dX7_cuts_111 (fun r21 h20 _ => ?_)
      refine g_if_ne C 119 dX7_cuts_114 (by decide) (fun hc27 => ?_) (fun hc27 => ?_)
      · refine g_iconst (v := -1) C dX7_cuts_117 (by decide) ?_
        exact g_ireti C dX7_cuts_118
      · refine g_aload_n (i := 0) C dX7_cuts_119 rfl rfl ?_
        refine g_getA C f_X7_16 eq13 dX7_cuts_120 (fun q22 _ => ?_)
        refine g_iload (i := 7) C dX7_cuts_123 rfl ?_
        refine g_iconst (v := 2) C dX7_cuts_125 (by decide) ?_
        refine g_iload (i := 8) C dX7_cuts_126 rfl ?_
        refine g_imul C dX7_cuts_128 ?_
        refine g_iadd C dX7_cuts_129 ?_
        refine g_iconst (v := 1) C dX7_cuts_130 (by decide) ?_
        refine g_iadd C dX7_cuts_131 ?_
        refine g_iald C dX7_cuts_132 ?_
        refine g_iconst (v := 0) C dX7_cuts_133 (by decide) ?_
        refine g_bipush (v := 8) C dX7_cuts_134 (by decide) ?_
        refine g_cSi3 C cf_X7_79 aw_27 (fun r h' e => c_X7_within E (h20.1 q22 (((x16 + ((2 : Int32) * x17)) + (1 : Int32))).toNatClampNeg) (0 : Int32) (8 : Int32) h20 e) (by decide) (by decide) (Nat.le_of_ble_eq_true rfl) dX7_cuts_136 (fun r24 h23 _ => ?_)
        refine g_if_ne C 145 dX7_cuts_139 (by decide) (fun hc26 => ?_) (fun hc26 => ?_)
        · refine g_bipush (v := -2) C dX7_cuts_142 (by decide) ?_
          exact g_ireti C dX7_cuts_144
        · refine g_iinc (i := 8) (w := 1) C (fun yy => [some (.ref (E.2.2.2 + q13)), none, none, none, some (.int x14), some (.int x15), none, some (.int x16), some (.int yy), none, none, none]) dX7_cuts_145 rfl (by decide) rfl (by decide) rfl (fun _ => rfl) (fun x25 => ?_)
          refine g_goto C 91 dX7_cuts_148 (by decide) ?_
          exact ih x25 h23
set_option maxHeartbeats 4000000 in
set_option maxRecDepth 100000 in
theorem G_F_X7_cuts_L161 {E : Ev} {X : Cx} (C : Ok E X cX7_cuts RX7 12 (some .int) 4) (k240 : Int32 → Int32 → Hp → Option (Int32 × Hp)) (q30 : Nat) (x31 : Int32) (x32 : Int32) (x33 : Int32) (hk240 : ∀ (z8 : Int32) (z9 : Int32) (hh : Hp), G E shM X vi 240 [none, none, none, none, none, some (.int x32), none, none, some (.int z8), some (.int z9), none, none] [] hh (k240 z8 z9 hh)) (eq30 : isO shM q30 7 = true) : ∀ (N : Nat) (x34 : Int32) (x35 : Int32) (x36 : Int32) (h37 : Hp), G E shM X vi 161 [some (.ref (E.2.2.2 + q30)), none, none, none, some (.int x31), some (.int x32), none, some (.int x33), some (.int x34), some (.int x35), some (.int x36), none] [] h37 (F_X7_cuts_L161 k240 q30 x31 x32 x33 N x34 x35 x36 h37) := by
  intro N
  induction N with
  | zero =>
    intro _ _ _ _
    exact g_none
  | succ N ih =>
    intro x34 x35 x36 h37
    rw [F_X7_cuts_L161]
    refine g_iload (i := 10) C dX7_cuts_161 rfl ?_
    refine g_iload (i := 4) C dX7_cuts_163 rfl ?_
    refine g_icmp_ge C 240 dX7_cuts_165 (by decide) (fun hc50 => ?_) (fun hc50 => ?_)
    · refine g_drop (i := 0) [none, none, none, none, some (.int x31), some (.int x32), none, some (.int x33), some (.int x34), some (.int x35), some (.int x36), none] rfl ?_
      refine g_drop (i := 4) [none, none, none, none, none, some (.int x32), none, some (.int x33), some (.int x34), some (.int x35), some (.int x36), none] rfl ?_
      refine g_drop (i := 7) [none, none, none, none, none, some (.int x32), none, none, some (.int x34), some (.int x35), some (.int x36), none] rfl ?_
      refine g_drop (i := 10) [none, none, none, none, none, some (.int x32), none, none, some (.int x34), some (.int x35), none, none] rfl ?_
      exact hk240 x34 x35 h37
    · refine g_iload (i := 8) C dX7_cuts_168 rfl ?_
      refine g_aload_n (i := 0) C dX7_cuts_170 rfl rfl ?_
      refine g_aload_n (i := 0) C dX7_cuts_171 rfl rfl ?_
      refine g_aload_n (i := 0) C dX7_cuts_172 rfl rfl ?_
      refine g_getA C f_X7_16 eq30 dX7_cuts_173 (fun q38 _ => ?_)
      refine g_iload (i := 7) C dX7_cuts_176 rfl ?_
      refine g_iconst (v := 2) C dX7_cuts_178 (by decide) ?_
      refine g_iload (i := 10) C dX7_cuts_179 rfl ?_
      refine g_imul C dX7_cuts_181 ?_
      refine g_iadd C dX7_cuts_182 ?_
      refine g_iald C dX7_cuts_183 ?_
      refine g_cVi1 C cf_X7_170 cv_X7_heardBy eq30 (fun r h' e => c_X7_heardBy E q30 (h37.1 q38 ((x33 + ((2 : Int32) * x36))).toNatClampNeg) eq30 h37 e) (by decide) (by decide) (Nat.le_of_ble_eq_true rfl) dX7_cuts_184 (fun r40 h39 _ => ?_)
      refine g_aload_n (i := 0) C dX7_cuts_187 rfl rfl ?_
      refine g_getA C f_X7_16 eq30 dX7_cuts_188 (fun q41 _ => ?_)
      refine g_iload (i := 7) C dX7_cuts_191 rfl ?_
      refine g_iconst (v := 2) C dX7_cuts_193 (by decide) ?_
      refine g_iload (i := 10) C dX7_cuts_194 rfl ?_
      refine g_imul C dX7_cuts_196 ?_
      refine g_iadd C dX7_cuts_197 ?_
      refine g_iconst (v := 1) C dX7_cuts_198 (by decide) ?_
      refine g_iadd C dX7_cuts_199 ?_
      refine g_iald C dX7_cuts_200 ?_
      refine g_cVi2 C cf_X7_182 cv_X7_wordsOf eq30 (fun r h' e => c_X7_wordsOf E q30 r40 (h39.1 q41 (((x33 + ((2 : Int32) * x36)) + (1 : Int32))).toNatClampNeg) eq30 h39 e) (by decide) (by decide) (Nat.le_of_ble_eq_true rfl) dX7_cuts_201 (fun r43 h42 _ => ?_)
      refine g_ior C dX7_cuts_204 ?_
      refine g_topi (fun x44 => ?_)
      refine g_istore (i := 11) C [some (.ref (E.2.2.2 + q30)), none, none, none, some (.int x31), some (.int x32), none, some (.int x33), some (.int x34), some (.int x35), some (.int x36), some (.int x44)] dX7_cuts_205 (by decide) rfl rfl ?_
      refine g_iload (i := 9) C dX7_cuts_207 rfl ?_
      refine g_bipush (v := -9) C dX7_cuts_209 (by decide) ?_
      refine g_icmp_ne C 226 dX7_cuts_211 (by decide) (fun hc49 => ?_) (fun hc49 => ?_)
      · refine g_iload (i := 11) C dX7_cuts_214 rfl ?_
        refine g_iload (i := 8) C dX7_cuts_216 rfl ?_
        refine g_icmp_ne C 226 dX7_cuts_218 (by decide) (fun hc48 => ?_) (fun hc48 => ?_)
        · refine g_iload (i := 10) C dX7_cuts_221 rfl ?_
          refine g_goto C 228 dX7_cuts_223 (by decide) ?_
          refine g_istore (i := 9) C [some (.ref (E.2.2.2 + q30)), none, none, none, some (.int x31), some (.int x32), none, some (.int x33), some (.int x34), some (.int x36), some (.int x36), some (.int x44)] dX7_cuts_228 (by decide) rfl rfl ?_
          refine g_iload (i := 11) C dX7_cuts_230 rfl ?_
          refine g_istore (i := 8) C [some (.ref (E.2.2.2 + q30)), none, none, none, some (.int x31), some (.int x32), none, some (.int x33), some (.int x44), some (.int x36), some (.int x36), some (.int x44)] dX7_cuts_232 (by decide) rfl rfl ?_
          refine g_iinc (i := 10) (w := 1) C (fun yy => [some (.ref (E.2.2.2 + q30)), none, none, none, some (.int x31), some (.int x32), none, some (.int x33), some (.int x44), some (.int x36), some (.int yy), some (.int x44)]) dX7_cuts_234 rfl (by decide) rfl (by decide) rfl (fun _ => rfl) (fun x47 => ?_)
          refine g_goto C 161 dX7_cuts_237 (by decide) ?_
          refine g_drop (i := 11) [some (.ref (E.2.2.2 + q30)), none, none, none, some (.int x31), some (.int x32), none, some (.int x33), some (.int x44), some (.int x36), some (.int x47), none] rfl ?_
          exact ih x44 x36 x47 h42
        · refine g_iload (i := 9) C dX7_cuts_226 rfl ?_
          refine g_istore (i := 9) C [some (.ref (E.2.2.2 + q30)), none, none, none, some (.int x31), some (.int x32), none, some (.int x33), some (.int x34), some (.int x35), some (.int x36), some (.int x44)] dX7_cuts_228 (by decide) rfl rfl ?_
          refine g_iload (i := 11) C dX7_cuts_230 rfl ?_
          refine g_istore (i := 8) C [some (.ref (E.2.2.2 + q30)), none, none, none, some (.int x31), some (.int x32), none, some (.int x33), some (.int x44), some (.int x35), some (.int x36), some (.int x44)] dX7_cuts_232 (by decide) rfl rfl ?_
          refine g_iinc (i := 10) (w := 1) C (fun yy => [some (.ref (E.2.2.2 + q30)), none, none, none, some (.int x31), some (.int x32), none, some (.int x33), some (.int x44), some (.int x35), some (.int yy), some (.int x44)]) dX7_cuts_234 rfl (by decide) rfl (by decide) rfl (fun _ => rfl) (fun x46 => ?_)
          refine g_goto C 161 dX7_cuts_237 (by decide) ?_
          refine g_drop (i := 11) [some (.ref (E.2.2.2 + q30)), none, none, none, some (.int x31), some (.int x32), none, some (.int x33), some (.int x44), some (.int x35), some (.int x46), none] rfl ?_
          exact ih x44 x35 x46 h42
      · refine g_iload (i := 9) C dX7_cuts_226 rfl ?_
        refine g_istore (i := 9) C [some (.ref (E.2.2.2 + q30)), none, none, none, some (.int x31), some (.int x32), none, some (.int x33), some (.int x34), some (.int x35), some (.int x36), some (.int x44)] dX7_cuts_228 (by decide) rfl rfl ?_
        refine g_iload (i := 11) C dX7_cuts_230 rfl ?_
        refine g_istore (i := 8) C [some (.ref (E.2.2.2 + q30)), none, none, none, some (.int x31), some (.int x32), none, some (.int x33), some (.int x44), some (.int x35), some (.int x36), some (.int x44)] dX7_cuts_232 (by decide) rfl rfl ?_
        refine g_iinc (i := 10) (w := 1) C (fun yy => [some (.ref (E.2.2.2 + q30)), none, none, none, some (.int x31), some (.int x32), none, some (.int x33), some (.int x44), some (.int x35), some (.int yy), some (.int x44)]) dX7_cuts_234 rfl (by decide) rfl (by decide) rfl (fun _ => rfl) (fun x45 => ?_)
        refine g_goto C 161 dX7_cuts_237 (by decide) ?_
        refine g_drop (i := 11) [some (.ref (E.2.2.2 + q30)), none, none, none, some (.int x31), some (.int x32), none, some (.int x33), some (.int x44), some (.int x35), some (.int x45), none] rfl ?_
        exact ih x44 x35 x45 h42
set_option maxHeartbeats 4000000 in
set_option maxRecDepth 100000 in
theorem c_X7_cuts (E : Ev) (o : Nat) (p0 : Int32) (p1 : Int32) (p2 : Int32) (p3 : Int32) (p4 : Int32) (eo : isO shM o 7 = true) (h : Hp) {r : Int32} {h' : Hp} (e : F_X7_cuts o p0 p1 p2 p3 p4 h = some (r, h')) : Ctr E shM yX7_cuts cX7_cuts 12 (some .int) 4 [.ref (E.2.2.2 + o), .int p0, .int p1, .int p2, .int p3, .int p4] h (vi r) h' := by
  refine Ctr.ofG (val := vi) e (by decide) (Nat.le_of_ble_eq_true rfl) [some (.ref (E.2.2.2 + o)), some (.int p0), some (.int p1), some (.int p2), some (.int p3), some (.int p4), none, none, none, none, none, none] rfl (fun X C => ?_)
  unfold F_X7_cuts
  refine g_aload_n (i := 0) C dX7_cuts_0 rfl rfl ?_
  refine g_iconst (v := 0) C dX7_cuts_1 (by decide) ?_
  refine g_putI C f_X7_73 eo dX7_cuts_2 (fun h1 => ?_)
  refine g_iload_n (i := 1) C dX7_cuts_5 rfl rfl ?_
  refine g_cSi1 C cf_X7_95 aw_30 (fun r h' e => c_X7_isSheet E p0 h1 e) (by decide) (by decide) (Nat.le_of_ble_eq_true rfl) dX7_cuts_6 (fun r3 h2 _ => ?_)
  refine g_if_ne C 14 dX7_cuts_9 (by decide) (fun hc62 => ?_) (fun hc62 => ?_)
  · refine g_iconst (v := -1) C dX7_cuts_12 (by decide) ?_
    exact g_ireti C dX7_cuts_13
  · refine g_iload_n (i := 2) C dX7_cuts_14 rfl rfl ?_
    refine g_cSi1 C cf_X7_99 aw_29 (fun r h' e => c_X7_isSort E p1 h2 e) (by decide) (by decide) (Nat.le_of_ble_eq_true rfl) dX7_cuts_15 (fun r5 h4 _ => ?_)
    refine g_if_eq C 42 dX7_cuts_18 (by decide) (fun hc61 => ?_) (fun hc61 => ?_)
    · refine g_bipush (v := -2) C dX7_cuts_42 (by decide) ?_
      exact g_ireti C dX7_cuts_44
    · refine g_iload (i := 4) C dX7_cuts_21 rfl ?_
      refine g_iconst (v := 0) C dX7_cuts_23 (by decide) ?_
      refine g_bipush (v := 20) C dX7_cuts_24 (by decide) ?_
      refine g_cSi3 C cf_X7_79 aw_27 (fun r h' e => c_X7_within E p3 (0 : Int32) (20 : Int32) h4 e) (by decide) (by decide) (Nat.le_of_ble_eq_true rfl) dX7_cuts_26 (fun r7 h6 _ => ?_)
      refine g_if_eq C 42 dX7_cuts_29 (by decide) (fun hc60 => ?_) (fun hc60 => ?_)
      · refine g_bipush (v := -2) C dX7_cuts_42 (by decide) ?_
        exact g_ireti C dX7_cuts_44
      · refine g_iload (i := 5) C dX7_cuts_32 rfl ?_
        refine g_iconst (v := 0) C dX7_cuts_34 (by decide) ?_
        refine g_iconst (v := 1) C dX7_cuts_35 (by decide) ?_
        refine g_cSi3 C cf_X7_79 aw_27 (fun r h' e => c_X7_within E p4 (0 : Int32) (1 : Int32) h6 e) (by decide) (by decide) (Nat.le_of_ble_eq_true rfl) dX7_cuts_36 (fun r9 h8 _ => ?_)
        refine g_if_ne C 45 dX7_cuts_39 (by decide) (fun hc59 => ?_) (fun hc59 => ?_)
        · refine g_bipush (v := -2) C dX7_cuts_42 (by decide) ?_
          exact g_ireti C dX7_cuts_44
        · refine g_aload_n (i := 0) C dX7_cuts_45 rfl rfl ?_
          refine g_iload_n (i := 1) C dX7_cuts_46 rfl rfl ?_
          refine g_iload_n (i := 2) C dX7_cuts_47 rfl rfl ?_
          refine g_iload_n (i := 3) C dX7_cuts_48 rfl rfl ?_
          refine g_iconst (v := 2) C dX7_cuts_49 (by decide) ?_
          refine g_iload (i := 4) C dX7_cuts_50 rfl ?_
          refine g_imul C dX7_cuts_52 ?_
          refine g_cVi4 C cf_X7_102 cv_X7_against eo (fun r h' e => c_X7_against E o p0 p1 p2 ((2 : Int32) * p3) eo h8 e) (by decide) (by decide) (Nat.le_of_ble_eq_true rfl) dX7_cuts_53 (fun r11 h10 _ => ?_)
          refine g_istore (i := 6) C [some (.ref (E.2.2.2 + o)), some (.int p0), some (.int p1), some (.int p2), some (.int p3), some (.int p4), some (.int r11), none, none, none, none, none] dX7_cuts_56 (by decide) rfl rfl ?_
          refine g_iload (i := 6) C dX7_cuts_58 rfl ?_
          refine g_if_eq C 70 dX7_cuts_60 (by decide) (fun hc58 => ?_) (fun hc58 => ?_)
          · refine g_aload_n (i := 0) C dX7_cuts_70 rfl rfl ?_
            refine g_getI C f_X7_89 eo dX7_cuts_71 ?_
            refine g_if_ne C 80 dX7_cuts_74 (by decide) (fun hc55 => ?_) (fun hc55 => ?_)
            · refine g_bipush (v := -3) C dX7_cuts_77 (by decide) ?_
              exact g_ireti C dX7_cuts_79
            · refine g_bipush (v := 60) C dX7_cuts_80 (by decide) ?_
              refine g_iload_n (i := 1) C dX7_cuts_82 rfl rfl ?_
              refine g_imul C dX7_cuts_83 ?_
              refine g_iload_n (i := 3) C dX7_cuts_84 rfl rfl ?_
              refine g_iadd C dX7_cuts_85 ?_
              refine g_topi (fun x12 => ?_)
              refine g_istore (i := 7) C [some (.ref (E.2.2.2 + o)), some (.int p0), some (.int p1), some (.int p2), some (.int p3), some (.int p4), some (.int r11), some (.int x12), none, none, none, none] dX7_cuts_86 (by decide) rfl rfl ?_
              refine g_iconst (v := 0) C dX7_cuts_88 (by decide) ?_
              refine g_istore (i := 8) C [some (.ref (E.2.2.2 + o)), some (.int p0), some (.int p1), some (.int p2), some (.int p3), some (.int p4), some (.int r11), some (.int x12), some (.int (0 : Int32)), none, none, none] dX7_cuts_89 (by decide) rfl rfl ?_
              refine g_drop (i := 1) [some (.ref (E.2.2.2 + o)), none, some (.int p1), some (.int p2), some (.int p3), some (.int p4), some (.int r11), some (.int x12), some (.int (0 : Int32)), none, none, none] rfl ?_
              refine g_drop (i := 2) [some (.ref (E.2.2.2 + o)), none, none, some (.int p2), some (.int p3), some (.int p4), some (.int r11), some (.int x12), some (.int (0 : Int32)), none, none, none] rfl ?_
              refine g_drop (i := 3) [some (.ref (E.2.2.2 + o)), none, none, none, some (.int p3), some (.int p4), some (.int r11), some (.int x12), some (.int (0 : Int32)), none, none, none] rfl ?_
              refine g_drop (i := 6) [some (.ref (E.2.2.2 + o)), none, none, none, some (.int p3), some (.int p4), none, some (.int x12), some (.int (0 : Int32)), none, none, none] rfl ?_
              refine G_F_X7_cuts_L91 C _ o p3 p4 x12 (fun h29 => ?_) eo FU (0 : Int32) h10
              refine g_iconst (v := 0) C dX7_cuts_151 (by decide) ?_
              refine g_istore (i := 8) C [some (.ref (E.2.2.2 + o)), none, none, none, some (.int p3), some (.int p4), none, some (.int x12), some (.int (0 : Int32)), none, none, none] dX7_cuts_152 (by decide) rfl rfl ?_
              refine g_bipush (v := -9) C dX7_cuts_154 (by decide) ?_
              refine g_istore (i := 9) C [some (.ref (E.2.2.2 + o)), none, none, none, some (.int p3), some (.int p4), none, some (.int x12), some (.int (0 : Int32)), some (.int (-9 : Int32)), none, none] dX7_cuts_156 (by decide) rfl rfl ?_
              refine g_iconst (v := 0) C dX7_cuts_158 (by decide) ?_
              refine g_istore (i := 10) C [some (.ref (E.2.2.2 + o)), none, none, none, some (.int p3), some (.int p4), none, some (.int x12), some (.int (0 : Int32)), some (.int (-9 : Int32)), some (.int (0 : Int32)), none] dX7_cuts_159 (by decide) rfl rfl ?_
              refine G_F_X7_cuts_L161 C _ o p3 p4 x12 (fun w51 w52 h53 => ?_) eo FU (0 : Int32) (-9 : Int32) (0 : Int32) h29
              refine g_iload (i := 5) C dX7_cuts_240 rfl ?_
              refine g_if_ne C 250 dX7_cuts_242 (by decide) (fun hc54 => ?_) (fun hc54 => ?_)
              · refine g_iload (i := 8) C dX7_cuts_245 rfl ?_
                refine g_goto C 252 dX7_cuts_247 (by decide) ?_
                exact g_ireti C dX7_cuts_252
              · refine g_iload (i := 9) C dX7_cuts_250 rfl ?_
                exact g_ireti C dX7_cuts_252
          · refine g_aload_n (i := 0) C dX7_cuts_63 rfl rfl ?_
            refine g_iload (i := 6) C dX7_cuts_64 rfl ?_
            refine g_cVi1 C cf_X7_106 cv_X7_fails eo (fun r h' e => c_X7_fails E o r11 eo h10 e) (by decide) (by decide) (Nat.le_of_ble_eq_true rfl) dX7_cuts_66 (fun r57 h56 _ => ?_)
            exact g_ireti C dX7_cuts_69
set_option maxHeartbeats 4000000 in
set_option maxRecDepth 100000 in
theorem c_X7_isSign (E : Ev) (o : Nat) (p0 : Int32) (p1 : Int32) (eo : isO shM o 7 = true) (h : Hp) {r : Int32} {h' : Hp} (e : F_X7_isSign o p0 p1 h = some (r, h')) : Ctr E shM yX7_isSign cX7_isSign 3 (some .boolean) 1 [.ref (E.2.2.2 + o), .int p0, .int p1] h (vi r) h' := by
  refine Ctr.ofG (val := vi) e (by decide) (Nat.le_of_ble_eq_true rfl) [some (.ref (E.2.2.2 + o)), some (.int p0), some (.int p1)] rfl (fun X C => ?_)
  unfold F_X7_isSign
  refine g_aload_n (i := 0) C dX7_isSign_0 rfl rfl ?_
  refine g_getI C f_X7_92 eo dX7_isSign_1 ?_
  refine g_iload_n (i := 1) C dX7_isSign_4 rfl rfl ?_
  refine g_icmp_ge C 21 dX7_isSign_5 (by decide) (fun hc4 => ?_) (fun hc4 => ?_)
  · refine g_iconst (v := 0) C dX7_isSign_21 (by decide) ?_
    exact g_iretz C rfl dX7_isSign_22
  · refine g_aload_n (i := 0) C dX7_isSign_8 rfl rfl ?_
    refine g_getA C f_X7_16 eo dX7_isSign_9 (fun q1 _ => ?_)
    refine g_aload_n (i := 0) C dX7_isSign_12 rfl rfl ?_
    refine g_getI C f_X7_92 eo dX7_isSign_13 ?_
    refine g_iald C dX7_isSign_16 ?_
    refine g_iload_n (i := 2) C dX7_isSign_17 rfl rfl ?_
    refine g_icmp_eq C 23 dX7_isSign_18 (by decide) (fun hc3 => ?_) (fun hc3 => ?_)
    · refine g_aload_n (i := 0) C dX7_isSign_23 rfl rfl ?_
      refine g_dup C dX7_isSign_24 rfl ?_
      refine g_getI C f_X7_92 eo dX7_isSign_25 ?_
      refine g_iconst (v := 1) C dX7_isSign_28 (by decide) ?_
      refine g_iadd C dX7_isSign_29 ?_
      refine g_putI C f_X7_92 eo dX7_isSign_30 (fun h2 => ?_)
      refine g_iconst (v := 1) C dX7_isSign_33 (by decide) ?_
      exact g_iretz C rfl dX7_isSign_34
    · refine g_iconst (v := 0) C dX7_isSign_21 (by decide) ?_
      exact g_iretz C rfl dX7_isSign_22
set_option maxHeartbeats 4000000 in
set_option maxRecDepth 100000 in
theorem c_X7_digit (E : Ev) (o : Nat) (p0 : Int32) (p1 : Int32) (p2 : Int32) (eo : isO shM o 7 = true) (h : Hp) {r : Int32} {h' : Hp} (e : F_X7_digit o p0 p1 p2 h = some (r, h')) : Ctr E shM yX7_digit cX7_digit 4 (some .int) 2 [.ref (E.2.2.2 + o), .int p0, .int p1, .int p2] h (vi r) h' := by
  refine Ctr.ofG (val := vi) e (by decide) (Nat.le_of_ble_eq_true rfl) [some (.ref (E.2.2.2 + o)), some (.int p0), some (.int p1), some (.int p2)] rfl (fun X C => ?_)
  unfold F_X7_digit
  refine g_aload_n (i := 0) C dX7_digit_0 rfl rfl ?_
  refine g_getI C f_X7_92 eo dX7_digit_1 ?_
  refine g_iload_n (i := 1) C dX7_digit_4 rfl rfl ?_
  refine g_icmp_ge C 31 dX7_digit_5 (by decide) (fun hc7 => ?_) (fun hc7 => ?_)
  · refine g_bipush (v := -9) C dX7_digit_31 (by decide) ?_
    exact g_ireti C dX7_digit_33
  · refine g_aload_n (i := 0) C dX7_digit_8 rfl rfl ?_
    refine g_getA C f_X7_16 eo dX7_digit_9 (fun q1 _ => ?_)
    refine g_aload_n (i := 0) C dX7_digit_12 rfl rfl ?_
    refine g_getI C f_X7_92 eo dX7_digit_13 ?_
    refine g_iald C dX7_digit_16 ?_
    refine g_bipush (v := 48) C dX7_digit_17 (by decide) ?_
    refine g_iload_n (i := 2) C dX7_digit_19 rfl rfl ?_
    refine g_iadd C dX7_digit_20 ?_
    refine g_bipush (v := 48) C dX7_digit_21 (by decide) ?_
    refine g_iload_n (i := 3) C dX7_digit_23 rfl rfl ?_
    refine g_iadd C dX7_digit_24 ?_
    refine g_cSi3 C cf_X7_79 aw_27 (fun r h' e => c_X7_within E (h.1 q1 ((h.1 o 20)).toNatClampNeg) ((48 : Int32) + p1) ((48 : Int32) + p2) h e) (by decide) (by decide) (Nat.le_of_ble_eq_true rfl) dX7_digit_25 (fun r3 h2 _ => ?_)
    refine g_if_ne C 34 dX7_digit_28 (by decide) (fun hc6 => ?_) (fun hc6 => ?_)
    · refine g_bipush (v := -9) C dX7_digit_31 (by decide) ?_
      exact g_ireti C dX7_digit_33
    · refine g_aload_n (i := 0) C dX7_digit_34 rfl rfl ?_
      refine g_dup C dX7_digit_35 rfl ?_
      refine g_getI C f_X7_92 eo dX7_digit_36 ?_
      refine g_iconst (v := 1) C dX7_digit_39 (by decide) ?_
      refine g_iadd C dX7_digit_40 ?_
      refine g_putI C f_X7_92 eo dX7_digit_41 (fun h4 => ?_)
      refine g_aload_n (i := 0) C dX7_digit_44 rfl rfl ?_
      refine g_getA C f_X7_16 eo dX7_digit_45 (fun q5 _ => ?_)
      refine g_aload_n (i := 0) C dX7_digit_48 rfl rfl ?_
      refine g_getI C f_X7_92 eo dX7_digit_49 ?_
      refine g_iconst (v := 1) C dX7_digit_52 (by decide) ?_
      refine g_isub C dX7_digit_53 ?_
      refine g_iald C dX7_digit_54 ?_
      refine g_bipush (v := 48) C dX7_digit_55 (by decide) ?_
      refine g_isub C dX7_digit_57 ?_
      exact g_ireti C dX7_digit_58
set_option maxHeartbeats 4000000 in
set_option maxRecDepth 100000 in
theorem G_F_X7_readOneCheese_J66 {E : Ev} {X : Cx} (C : Ok E X cX7_readOneCheese RX7 4 (some .boolean) 3) (q8 : Nat) (x9 : Int32) (x10 : Int32) (y11 : Int32) (y12 : Int32) (y13 : Nat) (eq8 : isO shM q8 7 = true) (h14 : Hp) : G E shM X vi 66 [some (.ref (E.2.2.2 + q8)), some (.int x9), some (.int x10), none] [.int y11, .int y12, .ref (E.2.2.2 + y13)] h14 (F_X7_readOneCheese_J66 q8 x9 x10 y11 y12 y13 h14) := by
  unfold F_X7_readOneCheese_J66
  refine g_iast C dX7_readOneCheese_66 (fun h15 => ?_)
  refine g_aload_n (i := 0) C dX7_readOneCheese_67 rfl rfl ?_
  refine g_getA C f_X7_49 eq8 dX7_readOneCheese_68 (fun q16 _ => ?_)
  refine g_iload_n (i := 2) C dX7_readOneCheese_71 rfl rfl ?_
  refine g_iald C dX7_readOneCheese_72 ?_
  refine g_bipush (v := -9) C dX7_readOneCheese_73 (by decide) ?_
  refine g_icmp_ne C 80 dX7_readOneCheese_75 (by decide) (fun hc31 => ?_) (fun hc31 => ?_)
  · refine g_iconst (v := 0) C dX7_readOneCheese_78 (by decide) ?_
    exact g_iretz C rfl dX7_readOneCheese_79
  · refine g_aload_n (i := 0) C dX7_readOneCheese_80 rfl rfl ?_
    refine g_dup C dX7_readOneCheese_81 rfl ?_
    refine g_getI C f_X7_92 eq8 dX7_readOneCheese_82 ?_
    refine g_iconst (v := 1) C dX7_readOneCheese_85 (by decide) ?_
    refine g_iadd C dX7_readOneCheese_86 ?_
    refine g_putI C f_X7_92 eq8 dX7_readOneCheese_87 (fun h17 => ?_)
    refine g_aload_n (i := 0) C dX7_readOneCheese_90 rfl rfl ?_
    refine g_getA C f_X7_49 eq8 dX7_readOneCheese_91 (fun q18 _ => ?_)
    refine g_iload_n (i := 2) C dX7_readOneCheese_94 rfl rfl ?_
    refine g_iconst (v := 1) C dX7_readOneCheese_95 (by decide) ?_
    refine g_iadd C dX7_readOneCheese_96 ?_
    refine g_aload_n (i := 0) C dX7_readOneCheese_97 rfl rfl ?_
    refine g_iload_n (i := 1) C dX7_readOneCheese_98 rfl rfl ?_
    refine g_iconst (v := 0) C dX7_readOneCheese_99 (by decide) ?_
    refine g_aload_n (i := 0) C dX7_readOneCheese_100 rfl rfl ?_
    refine g_getI C f_X7_116 eq8 dX7_readOneCheese_101 ?_
    refine g_iconst (v := 1) C dX7_readOneCheese_104 (by decide) ?_
    refine g_isub C dX7_readOneCheese_105 ?_
    refine g_cVi3 C cf_X7_135 cv_X7_digit eq8 (fun r h' e => c_X7_digit E q8 x9 (0 : Int32) ((h17.1 q8 21) - (1 : Int32)) eq8 h17 e) (by decide) (by decide) (Nat.le_of_ble_eq_true rfl) dX7_readOneCheese_106 (fun r20 h19 _ => ?_)
    refine g_iast C dX7_readOneCheese_109 (fun h21 => ?_)
    refine g_aload_n (i := 0) C dX7_readOneCheese_110 rfl rfl ?_
    refine g_getA C f_X7_49 eq8 dX7_readOneCheese_111 (fun q22 _ => ?_)
    refine g_iload_n (i := 2) C dX7_readOneCheese_114 rfl rfl ?_
    refine g_iconst (v := 1) C dX7_readOneCheese_115 (by decide) ?_
    refine g_iadd C dX7_readOneCheese_116 ?_
    refine g_iald C dX7_readOneCheese_117 ?_
    refine g_bipush (v := -9) C dX7_readOneCheese_118 (by decide) ?_
    refine g_icmp_ne C 125 dX7_readOneCheese_120 (by decide) (fun hc30 => ?_) (fun hc30 => ?_)
    · refine g_iconst (v := 0) C dX7_readOneCheese_123 (by decide) ?_
      exact g_iretz C rfl dX7_readOneCheese_124
    · refine g_aload_n (i := 0) C dX7_readOneCheese_125 rfl rfl ?_
      refine g_getA C f_X7_49 eq8 dX7_readOneCheese_126 (fun q23 _ => ?_)
      refine g_iload_n (i := 2) C dX7_readOneCheese_129 rfl rfl ?_
      refine g_iconst (v := 2) C dX7_readOneCheese_130 (by decide) ?_
      refine g_iadd C dX7_readOneCheese_131 ?_
      refine g_aload_n (i := 0) C dX7_readOneCheese_132 rfl rfl ?_
      refine g_iload_n (i := 1) C dX7_readOneCheese_133 rfl rfl ?_
      refine g_iconst (v := 0) C dX7_readOneCheese_134 (by decide) ?_
      refine g_bipush (v := 9) C dX7_readOneCheese_135 (by decide) ?_
      refine g_cVi3 C cf_X7_135 cv_X7_digit eq8 (fun r h' e => c_X7_digit E q8 x9 (0 : Int32) (9 : Int32) eq8 h21 e) (by decide) (by decide) (Nat.le_of_ble_eq_true rfl) dX7_readOneCheese_137 (fun r25 h24 _ => ?_)
      refine g_iast C dX7_readOneCheese_140 (fun h26 => ?_)
      refine g_aload_n (i := 0) C dX7_readOneCheese_141 rfl rfl ?_
      refine g_dup C dX7_readOneCheese_142 rfl ?_
      refine g_getI C f_X7_119 eq8 dX7_readOneCheese_143 ?_
      refine g_iconst (v := 1) C dX7_readOneCheese_146 (by decide) ?_
      refine g_iadd C dX7_readOneCheese_147 ?_
      refine g_putI C f_X7_119 eq8 dX7_readOneCheese_148 (fun h27 => ?_)
      refine g_aload_n (i := 0) C dX7_readOneCheese_151 rfl rfl ?_
      refine g_getA C f_X7_49 eq8 dX7_readOneCheese_152 (fun q28 _ => ?_)
      refine g_iload_n (i := 2) C dX7_readOneCheese_155 rfl rfl ?_
      refine g_iconst (v := 2) C dX7_readOneCheese_156 (by decide) ?_
      refine g_iadd C dX7_readOneCheese_157 ?_
      refine g_iald C dX7_readOneCheese_158 ?_
      refine g_bipush (v := -9) C dX7_readOneCheese_159 (by decide) ?_
      refine g_icmp_eq C 168 dX7_readOneCheese_161 (by decide) (fun hc29 => ?_) (fun hc29 => ?_)
      · refine g_iconst (v := 0) C dX7_readOneCheese_168 (by decide) ?_
        exact g_iretz C rfl dX7_readOneCheese_169
      · refine g_iconst (v := 1) C dX7_readOneCheese_164 (by decide) ?_
        refine g_goto C 169 dX7_readOneCheese_165 (by decide) ?_
        exact g_iretz C rfl dX7_readOneCheese_169
set_option maxHeartbeats 4000000 in
set_option maxRecDepth 100000 in
theorem G_F_X7_readOneCheese_J28 {E : Ev} {X : Cx} (C : Ok E X cX7_readOneCheese RX7 4 (some .boolean) 3) (q2 : Nat) (x3 : Int32) (x4 : Int32) (y5 : Int32) (eq2 : isO shM q2 7 = true) (h6 : Hp) : G E shM X vi 28 [some (.ref (E.2.2.2 + q2)), some (.int x3), some (.int x4), none] [.int y5] h6 (F_X7_readOneCheese_J28 q2 x3 x4 y5 h6) := by
  unfold F_X7_readOneCheese_J28
  refine g_istore_n (i := 3) C [some (.ref (E.2.2.2 + q2)), some (.int x3), some (.int x4), some (.int y5)] dX7_readOneCheese_28 rfl (by decide) rfl rfl ?_
  refine g_aload_n (i := 0) C dX7_readOneCheese_29 rfl rfl ?_
  refine g_getA C f_X7_49 eq2 dX7_readOneCheese_30 (fun q7 _ => ?_)
  refine g_iload_n (i := 2) C dX7_readOneCheese_33 rfl rfl ?_
  refine g_iload_n (i := 3) C dX7_readOneCheese_34 rfl rfl ?_
  refine g_bipush (v := 99) C dX7_readOneCheese_35 (by decide) ?_
  refine g_icmp_ne C 44 dX7_readOneCheese_37 (by decide) (fun hc34 => ?_) (fun hc34 => ?_)
  · refine g_iconst (v := 0) C dX7_readOneCheese_40 (by decide) ?_
    refine g_goto C 66 dX7_readOneCheese_41 (by decide) ?_
    refine g_drop (i := 3) [some (.ref (E.2.2.2 + q2)), some (.int x3), some (.int x4), none] rfl ?_
    exact G_F_X7_readOneCheese_J66 C q2 x3 x4 (0 : Int32) x4 q7 eq2 h6
  · refine g_iload_n (i := 3) C dX7_readOneCheese_44 rfl rfl ?_
    refine g_bipush (v := 119) C dX7_readOneCheese_45 (by decide) ?_
    refine g_icmp_ne C 54 dX7_readOneCheese_47 (by decide) (fun hc33 => ?_) (fun hc33 => ?_)
    · refine g_iconst (v := 1) C dX7_readOneCheese_50 (by decide) ?_
      refine g_goto C 66 dX7_readOneCheese_51 (by decide) ?_
      refine g_drop (i := 3) [some (.ref (E.2.2.2 + q2)), some (.int x3), some (.int x4), none] rfl ?_
      exact G_F_X7_readOneCheese_J66 C q2 x3 x4 (1 : Int32) x4 q7 eq2 h6
    · refine g_iload_n (i := 3) C dX7_readOneCheese_54 rfl rfl ?_
      refine g_bipush (v := 109) C dX7_readOneCheese_55 (by decide) ?_
      refine g_icmp_ne C 64 dX7_readOneCheese_57 (by decide) (fun hc32 => ?_) (fun hc32 => ?_)
      · refine g_iconst (v := 2) C dX7_readOneCheese_60 (by decide) ?_
        refine g_goto C 66 dX7_readOneCheese_61 (by decide) ?_
        refine g_drop (i := 3) [some (.ref (E.2.2.2 + q2)), some (.int x3), some (.int x4), none] rfl ?_
        exact G_F_X7_readOneCheese_J66 C q2 x3 x4 (2 : Int32) x4 q7 eq2 h6
      · refine g_bipush (v := -9) C dX7_readOneCheese_64 (by decide) ?_
        refine g_drop (i := 3) [some (.ref (E.2.2.2 + q2)), some (.int x3), some (.int x4), none] rfl ?_
        exact G_F_X7_readOneCheese_J66 C q2 x3 x4 (-9 : Int32) x4 q7 eq2 h6
set_option maxHeartbeats 4000000 in
set_option maxRecDepth 100000 in
theorem c_X7_readOneCheese (E : Ev) (o : Nat) (p0 : Int32) (eo : isO shM o 7 = true) (h : Hp) {r : Int32} {h' : Hp} (e : F_X7_readOneCheese o p0 h = some (r, h')) : Ctr E shM yX7_readOneCheese cX7_readOneCheese 4 (some .boolean) 3 [.ref (E.2.2.2 + o), .int p0] h (vi r) h' := by
  refine Ctr.ofG (val := vi) e (by decide) (Nat.le_of_ble_eq_true rfl) [some (.ref (E.2.2.2 + o)), some (.int p0), none, none] rfl (fun X C => ?_)
  unfold F_X7_readOneCheese
  refine g_iconst (v := 3) C dX7_readOneCheese_0 (by decide) ?_
  refine g_aload_n (i := 0) C dX7_readOneCheese_1 rfl rfl ?_
  refine g_getI C f_X7_119 eo dX7_readOneCheese_2 ?_
  refine g_imul C dX7_readOneCheese_5 ?_
  refine g_topi (fun x1 => ?_)
  refine g_istore_n (i := 2) C [some (.ref (E.2.2.2 + o)), some (.int p0), some (.int x1), none] dX7_readOneCheese_6 rfl (by decide) rfl rfl ?_
  refine g_aload_n (i := 0) C dX7_readOneCheese_7 rfl rfl ?_
  refine g_getI C f_X7_92 eo dX7_readOneCheese_8 ?_
  refine g_iload_n (i := 1) C dX7_readOneCheese_11 rfl rfl ?_
  refine g_icmp_ge C 27 dX7_readOneCheese_12 (by decide) (fun hc36 => ?_) (fun hc36 => ?_)
  · refine g_iconst (v := 0) C dX7_readOneCheese_27 (by decide) ?_
    exact G_F_X7_readOneCheese_J28 C o p0 x1 (0 : Int32) eo h
  · refine g_aload_n (i := 0) C dX7_readOneCheese_15 rfl rfl ?_
    refine g_getA C f_X7_16 eo dX7_readOneCheese_16 (fun q35 _ => ?_)
    refine g_aload_n (i := 0) C dX7_readOneCheese_19 rfl rfl ?_
    refine g_getI C f_X7_92 eo dX7_readOneCheese_20 ?_
    refine g_iald C dX7_readOneCheese_23 ?_
    refine g_goto C 28 dX7_readOneCheese_24 (by decide) ?_
    exact G_F_X7_readOneCheese_J28 C o p0 x1 (h.1 q35 ((h.1 o 20)).toNatClampNeg) eo h
set_option maxHeartbeats 4000000 in
set_option maxRecDepth 100000 in
theorem c_X7_readOneTalk (E : Ev) (o : Nat) (p0 : Int32) (eo : isO shM o 7 = true) (h : Hp) {r : Int32} {h' : Hp} (e : F_X7_readOneTalk o p0 h = some (r, h')) : Ctr E shM yX7_readOneTalk cX7_readOneTalk 3 (some .boolean) 3 [.ref (E.2.2.2 + o), .int p0] h (vi r) h' := by
  refine Ctr.ofG (val := vi) e (by decide) (Nat.le_of_ble_eq_true rfl) [some (.ref (E.2.2.2 + o)), some (.int p0), none] rfl (fun X C => ?_)
  unfold F_X7_readOneTalk
  refine g_iconst (v := 3) C dX7_readOneTalk_0 (by decide) ?_
  refine g_aload_n (i := 0) C dX7_readOneTalk_1 rfl rfl ?_
  refine g_getI C f_X7_122 eo dX7_readOneTalk_2 ?_
  refine g_imul C dX7_readOneTalk_5 ?_
  refine g_topi (fun x1 => ?_)
  refine g_istore_n (i := 2) C [some (.ref (E.2.2.2 + o)), some (.int p0), some (.int x1)] dX7_readOneTalk_6 rfl (by decide) rfl rfl ?_
  refine g_aload_n (i := 0) C dX7_readOneTalk_7 rfl rfl ?_
  refine g_getA C f_X7_52 eo dX7_readOneTalk_8 (fun q2 _ => ?_)
  refine g_iload_n (i := 2) C dX7_readOneTalk_11 rfl rfl ?_
  refine g_aload_n (i := 0) C dX7_readOneTalk_12 rfl rfl ?_
  refine g_iload_n (i := 1) C dX7_readOneTalk_13 rfl rfl ?_
  refine g_iconst (v := 0) C dX7_readOneTalk_14 (by decide) ?_
  refine g_aload_n (i := 0) C dX7_readOneTalk_15 rfl rfl ?_
  refine g_getI C f_X7_116 eo dX7_readOneTalk_16 ?_
  refine g_iconst (v := 1) C dX7_readOneTalk_19 (by decide) ?_
  refine g_isub C dX7_readOneTalk_20 ?_
  refine g_cVi3 C cf_X7_135 cv_X7_digit eo (fun r h' e => c_X7_digit E o p0 (0 : Int32) ((h.1 o 21) - (1 : Int32)) eo h e) (by decide) (by decide) (Nat.le_of_ble_eq_true rfl) dX7_readOneTalk_21 (fun r4 h3 _ => ?_)
  refine g_iast C dX7_readOneTalk_24 (fun h5 => ?_)
  refine g_aload_n (i := 0) C dX7_readOneTalk_25 rfl rfl ?_
  refine g_getA C f_X7_52 eo dX7_readOneTalk_26 (fun q6 _ => ?_)
  refine g_iload_n (i := 2) C dX7_readOneTalk_29 rfl rfl ?_
  refine g_iald C dX7_readOneTalk_30 ?_
  refine g_bipush (v := -9) C dX7_readOneTalk_31 (by decide) ?_
  refine g_icmp_ne C 38 dX7_readOneTalk_33 (by decide) (fun hc20 => ?_) (fun hc20 => ?_)
  · refine g_iconst (v := 0) C dX7_readOneTalk_36 (by decide) ?_
    exact g_iretz C rfl dX7_readOneTalk_37
  · refine g_aload_n (i := 0) C dX7_readOneTalk_38 rfl rfl ?_
    refine g_getA C f_X7_52 eo dX7_readOneTalk_39 (fun q7 _ => ?_)
    refine g_iload_n (i := 2) C dX7_readOneTalk_42 rfl rfl ?_
    refine g_iconst (v := 1) C dX7_readOneTalk_43 (by decide) ?_
    refine g_iadd C dX7_readOneTalk_44 ?_
    refine g_aload_n (i := 0) C dX7_readOneTalk_45 rfl rfl ?_
    refine g_iload_n (i := 1) C dX7_readOneTalk_46 rfl rfl ?_
    refine g_iconst (v := 1) C dX7_readOneTalk_47 (by decide) ?_
    refine g_bipush (v := 9) C dX7_readOneTalk_48 (by decide) ?_
    refine g_cVi3 C cf_X7_135 cv_X7_digit eo (fun r h' e => c_X7_digit E o p0 (1 : Int32) (9 : Int32) eo h5 e) (by decide) (by decide) (Nat.le_of_ble_eq_true rfl) dX7_readOneTalk_50 (fun r9 h8 _ => ?_)
    refine g_iast C dX7_readOneTalk_53 (fun h10 => ?_)
    refine g_aload_n (i := 0) C dX7_readOneTalk_54 rfl rfl ?_
    refine g_getA C f_X7_52 eo dX7_readOneTalk_55 (fun q11 _ => ?_)
    refine g_iload_n (i := 2) C dX7_readOneTalk_58 rfl rfl ?_
    refine g_iconst (v := 1) C dX7_readOneTalk_59 (by decide) ?_
    refine g_iadd C dX7_readOneTalk_60 ?_
    refine g_iald C dX7_readOneTalk_61 ?_
    refine g_bipush (v := -9) C dX7_readOneTalk_62 (by decide) ?_
    refine g_icmp_ne C 69 dX7_readOneTalk_64 (by decide) (fun hc19 => ?_) (fun hc19 => ?_)
    · refine g_iconst (v := 0) C dX7_readOneTalk_67 (by decide) ?_
      exact g_iretz C rfl dX7_readOneTalk_68
    · refine g_aload_n (i := 0) C dX7_readOneTalk_69 rfl rfl ?_
      refine g_getA C f_X7_52 eo dX7_readOneTalk_70 (fun q12 _ => ?_)
      refine g_iload_n (i := 2) C dX7_readOneTalk_73 rfl rfl ?_
      refine g_iconst (v := 2) C dX7_readOneTalk_74 (by decide) ?_
      refine g_iadd C dX7_readOneTalk_75 ?_
      refine g_aload_n (i := 0) C dX7_readOneTalk_76 rfl rfl ?_
      refine g_iload_n (i := 1) C dX7_readOneTalk_77 rfl rfl ?_
      refine g_iconst (v := 0) C dX7_readOneTalk_78 (by decide) ?_
      refine g_bipush (v := 7) C dX7_readOneTalk_79 (by decide) ?_
      refine g_cVi3 C cf_X7_135 cv_X7_digit eo (fun r h' e => c_X7_digit E o p0 (0 : Int32) (7 : Int32) eo h10 e) (by decide) (by decide) (Nat.le_of_ble_eq_true rfl) dX7_readOneTalk_81 (fun r14 h13 _ => ?_)
      refine g_iast C dX7_readOneTalk_84 (fun h15 => ?_)
      refine g_aload_n (i := 0) C dX7_readOneTalk_85 rfl rfl ?_
      refine g_dup C dX7_readOneTalk_86 rfl ?_
      refine g_getI C f_X7_122 eo dX7_readOneTalk_87 ?_
      refine g_iconst (v := 1) C dX7_readOneTalk_90 (by decide) ?_
      refine g_iadd C dX7_readOneTalk_91 ?_
      refine g_putI C f_X7_122 eo dX7_readOneTalk_92 (fun h16 => ?_)
      refine g_aload_n (i := 0) C dX7_readOneTalk_95 rfl rfl ?_
      refine g_getA C f_X7_52 eo dX7_readOneTalk_96 (fun q17 _ => ?_)
      refine g_iload_n (i := 2) C dX7_readOneTalk_99 rfl rfl ?_
      refine g_iconst (v := 2) C dX7_readOneTalk_100 (by decide) ?_
      refine g_iadd C dX7_readOneTalk_101 ?_
      refine g_iald C dX7_readOneTalk_102 ?_
      refine g_bipush (v := -9) C dX7_readOneTalk_103 (by decide) ?_
      refine g_icmp_eq C 112 dX7_readOneTalk_105 (by decide) (fun hc18 => ?_) (fun hc18 => ?_)
      · refine g_iconst (v := 0) C dX7_readOneTalk_112 (by decide) ?_
        exact g_iretz C rfl dX7_readOneTalk_113
      · refine g_iconst (v := 1) C dX7_readOneTalk_108 (by decide) ?_
        refine g_goto C 113 dX7_readOneTalk_109 (by decide) ?_
        exact g_iretz C rfl dX7_readOneTalk_113
set_option maxHeartbeats 4000000 in
set_option maxRecDepth 100000 in
theorem G_F_X7_readDairy_L62 {E : Ev} {X : Cx} (C : Ok E X cX7_readDairy RX7 2 (some .boolean) 4) (k90 : Hp → Option (Int32 × Hp)) (q12 : Nat) (x13 : Int32) (hk90 : ∀ (hh : Hp), G E shM X vi 90 [some (.ref (E.2.2.2 + q12)), some (.int x13)] [] hh (k90 hh)) (eq12 : isO shM q12 7 = true) : ∀ (N : Nat) (h14 : Hp), G E shM X vi 62 [some (.ref (E.2.2.2 + q12)), some (.int x13)] [] h14 (F_X7_readDairy_L62 k90 q12 x13 N h14) := by
  intro N
  induction N with
  | zero =>
    intro _
    exact g_none
  | succ N ih =>
    intro h14
    rw [F_X7_readDairy_L62]
    refine g_aload_n (i := 0) C dX7_readDairy_62 rfl rfl ?_
    refine g_getI C f_X7_119 eq12 dX7_readDairy_63 ?_
    refine g_iconst (v := 4) C dX7_readDairy_66 (by decide) ?_
    refine g_icmp_ge C 90 dX7_readDairy_67 (by decide) (fun hc21 => ?_) (fun hc21 => ?_)
    · exact hk90 h14
    · refine g_aload_n (i := 0) C dX7_readDairy_70 rfl rfl ?_
      refine g_iload_n (i := 1) C dX7_readDairy_71 rfl rfl ?_
      refine g_bipush (v := 44) C dX7_readDairy_72 (by decide) ?_
      refine g_cVi2 C cf_X7_131 cv_X7_isSign eq12 (fun r h' e => c_X7_isSign E q12 x13 (44 : Int32) eq12 h14 e) (by decide) (by decide) (Nat.le_of_ble_eq_true rfl) dX7_readDairy_74 (fun r16 h15 _ => ?_)
      refine g_if_eq C 90 dX7_readDairy_77 (by decide) (fun hc20 => ?_) (fun hc20 => ?_)
      · exact hk90 h15
      · refine g_aload_n (i := 0) C dX7_readDairy_80 rfl rfl ?_
        refine g_iload_n (i := 1) C dX7_readDairy_81 rfl rfl ?_
        refine g_cVi1 C cf_X7_139 cv_X7_readOneCheese eq12 (fun r h' e => c_X7_readOneCheese E q12 x13 eq12 h15 e) (by decide) (by decide) (Nat.le_of_ble_eq_true rfl) dX7_readDairy_82 (fun r18 h17 _ => ?_)
        refine g_if_ne C 62 dX7_readDairy_85 (by decide) (fun hc19 => ?_) (fun hc19 => ?_)
        · refine g_iconst (v := 0) C dX7_readDairy_88 (by decide) ?_
          exact g_iretz C rfl dX7_readDairy_89
        · exact ih h17
set_option maxHeartbeats 4000000 in
set_option maxRecDepth 100000 in
theorem G_F_X7_readDairy_L110 {E : Ev} {X : Cx} (C : Ok E X cX7_readDairy RX7 2 (some .boolean) 4) (k139 : Hp → Option (Int32 × Hp)) (q30 : Nat) (x31 : Int32) (hk139 : ∀ (hh : Hp), G E shM X vi 139 [some (.ref (E.2.2.2 + q30)), some (.int x31)] [] hh (k139 hh)) (eq30 : isO shM q30 7 = true) : ∀ (N : Nat) (h32 : Hp), G E shM X vi 110 [some (.ref (E.2.2.2 + q30)), some (.int x31)] [] h32 (F_X7_readDairy_L110 k139 q30 x31 N h32) := by
  intro N
  induction N with
  | zero =>
    intro _
    exact g_none
  | succ N ih =>
    intro h32
    rw [F_X7_readDairy_L110]
    refine g_aload_n (i := 0) C dX7_readDairy_110 rfl rfl ?_
    refine g_getI C f_X7_122 eq30 dX7_readDairy_111 ?_
    refine g_bipush (v := 8) C dX7_readDairy_114 (by decide) ?_
    refine g_icmp_ge C 139 dX7_readDairy_116 (by decide) (fun hc39 => ?_) (fun hc39 => ?_)
    · exact hk139 h32
    · refine g_aload_n (i := 0) C dX7_readDairy_119 rfl rfl ?_
      refine g_iload_n (i := 1) C dX7_readDairy_120 rfl rfl ?_
      refine g_bipush (v := 59) C dX7_readDairy_121 (by decide) ?_
      refine g_cVi2 C cf_X7_131 cv_X7_isSign eq30 (fun r h' e => c_X7_isSign E q30 x31 (59 : Int32) eq30 h32 e) (by decide) (by decide) (Nat.le_of_ble_eq_true rfl) dX7_readDairy_123 (fun r34 h33 _ => ?_)
      refine g_if_eq C 139 dX7_readDairy_126 (by decide) (fun hc38 => ?_) (fun hc38 => ?_)
      · exact hk139 h33
      · refine g_aload_n (i := 0) C dX7_readDairy_129 rfl rfl ?_
        refine g_iload_n (i := 1) C dX7_readDairy_130 rfl rfl ?_
        refine g_cVi1 C cf_X7_142 cv_X7_readOneTalk eq30 (fun r h' e => c_X7_readOneTalk E q30 x31 eq30 h33 e) (by decide) (by decide) (Nat.le_of_ble_eq_true rfl) dX7_readDairy_131 (fun r36 h35 _ => ?_)
        refine g_if_ne C 110 dX7_readDairy_134 (by decide) (fun hc37 => ?_) (fun hc37 => ?_)
        · refine g_iconst (v := 0) C dX7_readDairy_137 (by decide) ?_
          exact g_iretz C rfl dX7_readDairy_138
        · exact ih h35
set_option maxHeartbeats 4000000 in
set_option maxRecDepth 100000 in
theorem G_F_X7_readDairy_J139 {E : Ev} {X : Cx} (C : Ok E X cX7_readDairy RX7 2 (some .boolean) 4) (q41 : Nat) (x42 : Int32) (eq41 : isO shM q41 7 = true) (h43 : Hp) : G E shM X vi 139 [some (.ref (E.2.2.2 + q41)), some (.int x42)] [] h43 (F_X7_readDairy_J139 q41 x42 h43) := by
  unfold F_X7_readDairy_J139
  refine g_aload_n (i := 0) C dX7_readDairy_139 rfl rfl ?_
  refine g_getI C f_X7_92 eq41 dX7_readDairy_140 ?_
  refine g_iload_n (i := 1) C dX7_readDairy_143 rfl rfl ?_
  refine g_icmp_ne C 151 dX7_readDairy_144 (by decide) (fun hc44 => ?_) (fun hc44 => ?_)
  · refine g_iconst (v := 1) C dX7_readDairy_147 (by decide) ?_
    refine g_goto C 152 dX7_readDairy_148 (by decide) ?_
    exact g_iretz C rfl dX7_readDairy_152
  · refine g_iconst (v := 0) C dX7_readDairy_151 (by decide) ?_
    exact g_iretz C rfl dX7_readDairy_152
set_option maxHeartbeats 4000000 in
set_option maxRecDepth 100000 in
theorem G_F_X7_readDairy_J90 {E : Ev} {X : Cx} (C : Ok E X cX7_readDairy RX7 2 (some .boolean) 4) (q23 : Nat) (x24 : Int32) (eq23 : isO shM q23 7 = true) (h25 : Hp) : G E shM X vi 90 [some (.ref (E.2.2.2 + q23)), some (.int x24)] [] h25 (F_X7_readDairy_J90 q23 x24 h25) := by
  unfold F_X7_readDairy_J90
  refine g_aload_n (i := 0) C dX7_readDairy_90 rfl rfl ?_
  refine g_iload_n (i := 1) C dX7_readDairy_91 rfl rfl ?_
  refine g_bipush (v := 59) C dX7_readDairy_92 (by decide) ?_
  refine g_cVi2 C cf_X7_131 cv_X7_isSign eq23 (fun r h' e => c_X7_isSign E q23 x24 (59 : Int32) eq23 h25 e) (by decide) (by decide) (Nat.le_of_ble_eq_true rfl) dX7_readDairy_94 (fun r27 h26 _ => ?_)
  refine g_if_eq C 108 dX7_readDairy_97 (by decide) (fun hc46 => ?_) (fun hc46 => ?_)
  · refine g_iconst (v := 0) C dX7_readDairy_108 (by decide) ?_
    exact g_iretz C rfl dX7_readDairy_109
  · refine g_aload_n (i := 0) C dX7_readDairy_100 rfl rfl ?_
    refine g_iload_n (i := 1) C dX7_readDairy_101 rfl rfl ?_
    refine g_cVi1 C cf_X7_142 cv_X7_readOneTalk eq23 (fun r h' e => c_X7_readOneTalk E q23 x24 eq23 h26 e) (by decide) (by decide) (Nat.le_of_ble_eq_true rfl) dX7_readDairy_102 (fun r29 h28 _ => ?_)
    refine g_if_ne C 110 dX7_readDairy_105 (by decide) (fun hc45 => ?_) (fun hc45 => ?_)
    · refine g_iconst (v := 0) C dX7_readDairy_108 (by decide) ?_
      exact g_iretz C rfl dX7_readDairy_109
    · refine G_F_X7_readDairy_L110 C _ q23 x24 (fun h40 => ?_) eq23 FU h28
      exact G_F_X7_readDairy_J139 C q23 x24 eq23 h40
set_option maxHeartbeats 4000000 in
set_option maxRecDepth 100000 in
theorem c_X7_readDairy (E : Ev) (o : Nat) (p0 : Int32) (eo : isO shM o 7 = true) (h : Hp) {r : Int32} {h' : Hp} (e : F_X7_readDairy o p0 h = some (r, h')) : Ctr E shM yX7_readDairy cX7_readDairy 2 (some .boolean) 4 [.ref (E.2.2.2 + o), .int p0] h (vi r) h' := by
  refine Ctr.ofG (val := vi) e (by decide) (Nat.le_of_ble_eq_true rfl) [some (.ref (E.2.2.2 + o)), some (.int p0)] rfl (fun X C => ?_)
  unfold F_X7_readDairy
  refine g_aload_n (i := 0) C dX7_readDairy_0 rfl rfl ?_
  refine g_iconst (v := 0) C dX7_readDairy_1 (by decide) ?_
  refine g_putI C f_X7_119 eo dX7_readDairy_2 (fun h1 => ?_)
  refine g_aload_n (i := 0) C dX7_readDairy_5 rfl rfl ?_
  refine g_iconst (v := 0) C dX7_readDairy_6 (by decide) ?_
  refine g_putI C f_X7_122 eo dX7_readDairy_7 (fun h2 => ?_)
  refine g_aload_n (i := 0) C dX7_readDairy_10 rfl rfl ?_
  refine g_iload_n (i := 1) C dX7_readDairy_11 rfl rfl ?_
  refine g_bipush (v := 113) C dX7_readDairy_12 (by decide) ?_
  refine g_cVi2 C cf_X7_131 cv_X7_isSign eo (fun r h' e => c_X7_isSign E o p0 (113 : Int32) eo h2 e) (by decide) (by decide) (Nat.le_of_ble_eq_true rfl) dX7_readDairy_14 (fun r4 h3 _ => ?_)
  refine g_if_ne C 22 dX7_readDairy_17 (by decide) (fun hc50 => ?_) (fun hc50 => ?_)
  · refine g_iconst (v := 0) C dX7_readDairy_20 (by decide) ?_
    exact g_iretz C rfl dX7_readDairy_21
  · refine g_aload_n (i := 0) C dX7_readDairy_22 rfl rfl ?_
    refine g_aload_n (i := 0) C dX7_readDairy_23 rfl rfl ?_
    refine g_iload_n (i := 1) C dX7_readDairy_24 rfl rfl ?_
    refine g_iconst (v := 1) C dX7_readDairy_25 (by decide) ?_
    refine g_iconst (v := 5) C dX7_readDairy_26 (by decide) ?_
    refine g_cVi3 C cf_X7_135 cv_X7_digit eo (fun r h' e => c_X7_digit E o p0 (1 : Int32) (5 : Int32) eo h3 e) (by decide) (by decide) (Nat.le_of_ble_eq_true rfl) dX7_readDairy_27 (fun r6 h5 _ => ?_)
    refine g_putI C f_X7_116 eo dX7_readDairy_30 (fun h7 => ?_)
    refine g_aload_n (i := 0) C dX7_readDairy_33 rfl rfl ?_
    refine g_getI C f_X7_116 eo dX7_readDairy_34 ?_
    refine g_bipush (v := -9) C dX7_readDairy_37 (by decide) ?_
    refine g_icmp_eq C 60 dX7_readDairy_39 (by decide) (fun hc49 => ?_) (fun hc49 => ?_)
    · refine g_iconst (v := 0) C dX7_readDairy_60 (by decide) ?_
      exact g_iretz C rfl dX7_readDairy_61
    · refine g_aload_n (i := 0) C dX7_readDairy_42 rfl rfl ?_
      refine g_iload_n (i := 1) C dX7_readDairy_43 rfl rfl ?_
      refine g_bipush (v := 44) C dX7_readDairy_44 (by decide) ?_
      refine g_cVi2 C cf_X7_131 cv_X7_isSign eo (fun r h' e => c_X7_isSign E o p0 (44 : Int32) eo h7 e) (by decide) (by decide) (Nat.le_of_ble_eq_true rfl) dX7_readDairy_46 (fun r9 h8 _ => ?_)
      refine g_if_eq C 60 dX7_readDairy_49 (by decide) (fun hc48 => ?_) (fun hc48 => ?_)
      · refine g_iconst (v := 0) C dX7_readDairy_60 (by decide) ?_
        exact g_iretz C rfl dX7_readDairy_61
      · refine g_aload_n (i := 0) C dX7_readDairy_52 rfl rfl ?_
        refine g_iload_n (i := 1) C dX7_readDairy_53 rfl rfl ?_
        refine g_cVi1 C cf_X7_139 cv_X7_readOneCheese eo (fun r h' e => c_X7_readOneCheese E o p0 eo h8 e) (by decide) (by decide) (Nat.le_of_ble_eq_true rfl) dX7_readDairy_54 (fun r11 h10 _ => ?_)
        refine g_if_ne C 62 dX7_readDairy_57 (by decide) (fun hc47 => ?_) (fun hc47 => ?_)
        · refine g_iconst (v := 0) C dX7_readDairy_60 (by decide) ?_
          exact g_iretz C rfl dX7_readDairy_61
        · refine G_F_X7_readDairy_L62 C _ o p0 (fun h22 => ?_) eo FU h10
          exact G_F_X7_readDairy_J90 C o p0 eo h22
set_option maxHeartbeats 4000000 in
set_option maxRecDepth 100000 in
theorem G_F_X7_takeDairy_L26 {E : Ev} {X : Cx} (C : Ok E X cX7_takeDairy RX7 2 none 1) (k94 : Hp → Option (Unit × Hp)) (q4 : Nat) (hk94 : ∀ (hh : Hp), G E shM X vv 94 [some (.ref (E.2.2.2 + q4)), none] [] hh (k94 hh)) (eq4 : isO shM q4 7 = true) : ∀ (N : Nat) (x5 : Int32) (h6 : Hp), G E shM X vv 26 [some (.ref (E.2.2.2 + q4)), some (.int x5)] [] h6 (F_X7_takeDairy_L26 k94 q4 N x5 h6) := by
  intro N
  induction N with
  | zero =>
    intro _ _
    exact g_none
  | succ N ih =>
    intro x5 h6
    rw [F_X7_takeDairy_L26]
    refine g_iload_n (i := 1) C dX7_takeDairy_26 rfl rfl ?_
    refine g_aload_n (i := 0) C dX7_takeDairy_27 rfl rfl ?_
    refine g_getI C f_X7_83 eq4 dX7_takeDairy_28 ?_
    refine g_icmp_ge C 94 dX7_takeDairy_31 (by decide) (fun hc19 => ?_) (fun hc19 => ?_)
    · refine g_drop (i := 1) [some (.ref (E.2.2.2 + q4)), none] rfl ?_
      exact hk94 h6
    · refine g_aload_n (i := 0) C dX7_takeDairy_34 rfl rfl ?_
      refine g_getA C f_X7_19 eq4 dX7_takeDairy_35 (fun q7 _ => ?_)
      refine g_iload_n (i := 1) C dX7_takeDairy_38 rfl rfl ?_
      refine g_aload_n (i := 0) C dX7_takeDairy_39 rfl rfl ?_
      refine g_getA C f_X7_49 eq4 dX7_takeDairy_40 (fun q8 _ => ?_)
      refine g_iconst (v := 3) C dX7_takeDairy_43 (by decide) ?_
      refine g_iload_n (i := 1) C dX7_takeDairy_44 rfl rfl ?_
      refine g_imul C dX7_takeDairy_45 ?_
      refine g_iald C dX7_takeDairy_46 ?_
      refine g_iast C dX7_takeDairy_47 (fun h9 => ?_)
      refine g_aload_n (i := 0) C dX7_takeDairy_48 rfl rfl ?_
      refine g_getA C f_X7_22 eq4 dX7_takeDairy_49 (fun q10 _ => ?_)
      refine g_iload_n (i := 1) C dX7_takeDairy_52 rfl rfl ?_
      refine g_aload_n (i := 0) C dX7_takeDairy_53 rfl rfl ?_
      refine g_getA C f_X7_49 eq4 dX7_takeDairy_54 (fun q11 _ => ?_)
      refine g_iconst (v := 3) C dX7_takeDairy_57 (by decide) ?_
      refine g_iload_n (i := 1) C dX7_takeDairy_58 rfl rfl ?_
      refine g_imul C dX7_takeDairy_59 ?_
      refine g_iconst (v := 1) C dX7_takeDairy_60 (by decide) ?_
      refine g_iadd C dX7_takeDairy_61 ?_
      refine g_iald C dX7_takeDairy_62 ?_
      refine g_iast C dX7_takeDairy_63 (fun h12 => ?_)
      refine g_aload_n (i := 0) C dX7_takeDairy_64 rfl rfl ?_
      refine g_getA C f_X7_25 eq4 dX7_takeDairy_65 (fun q13 _ => ?_)
      refine g_iload_n (i := 1) C dX7_takeDairy_68 rfl rfl ?_
      refine g_aload_n (i := 0) C dX7_takeDairy_69 rfl rfl ?_
      refine g_getA C f_X7_49 eq4 dX7_takeDairy_70 (fun q14 _ => ?_)
      refine g_iconst (v := 3) C dX7_takeDairy_73 (by decide) ?_
      refine g_iload_n (i := 1) C dX7_takeDairy_74 rfl rfl ?_
      refine g_imul C dX7_takeDairy_75 ?_
      refine g_iconst (v := 2) C dX7_takeDairy_76 (by decide) ?_
      refine g_iadd C dX7_takeDairy_77 ?_
      refine g_iald C dX7_takeDairy_78 ?_
      refine g_iast C dX7_takeDairy_79 (fun h15 => ?_)
      refine g_aload_n (i := 0) C dX7_takeDairy_80 rfl rfl ?_
      refine g_getA C f_X7_28 eq4 dX7_takeDairy_81 (fun q16 _ => ?_)
      refine g_iload_n (i := 1) C dX7_takeDairy_84 rfl rfl ?_
      refine g_bipush (v := -9) C dX7_takeDairy_85 (by decide) ?_
      refine g_iast C dX7_takeDairy_87 (fun h17 => ?_)
      refine g_iinc (i := 1) (w := 1) C (fun yy => [some (.ref (E.2.2.2 + q4)), some (.int yy)]) dX7_takeDairy_88 rfl (by decide) rfl (by decide) rfl (fun _ => rfl) (fun x18 => ?_)
      refine g_goto C 26 dX7_takeDairy_91 (by decide) ?_
      exact ih x18 h17
set_option maxHeartbeats 4000000 in
set_option maxRecDepth 100000 in
theorem G_F_X7_takeDairy_L96 {E : Ev} {X : Cx} (C : Ok E X cX7_takeDairy RX7 2 none 1) (q21 : Nat) (eq21 : isO shM q21 7 = true) : ∀ (N : Nat) (x22 : Int32) (h23 : Hp), G E shM X vv 96 [some (.ref (E.2.2.2 + q21)), some (.int x22)] [] h23 (F_X7_takeDairy_L96 q21 N x22 h23) := by
  intro N
  induction N with
  | zero =>
    intro _ _
    exact g_none
  | succ N ih =>
    intro x22 h23
    rw [F_X7_takeDairy_L96]
    refine g_iload_n (i := 1) C dX7_takeDairy_96 rfl rfl ?_
    refine g_aload_n (i := 0) C dX7_takeDairy_97 rfl rfl ?_
    refine g_getI C f_X7_89 eq21 dX7_takeDairy_98 ?_
    refine g_icmp_ge C 156 dX7_takeDairy_101 (by decide) (fun hc36 => ?_) (fun hc36 => ?_)
    · refine g_aload_n (i := 0) C dX7_takeDairy_156 rfl rfl ?_
      refine g_iconst (v := 0) C dX7_takeDairy_157 (by decide) ?_
      refine g_putI C f_X7_125 eq21 dX7_takeDairy_158 (fun h24 => ?_)
      refine g_aload_n (i := 0) C dX7_takeDairy_161 rfl rfl ?_
      refine g_iconst (v := 0) C dX7_takeDairy_162 (by decide) ?_
      refine g_putI C f_X7_128 eq21 dX7_takeDairy_163 (fun h25 => ?_)
      exact g_vret C dX7_takeDairy_166
    · refine g_aload_n (i := 0) C dX7_takeDairy_104 rfl rfl ?_
      refine g_getA C f_X7_31 eq21 dX7_takeDairy_105 (fun q26 _ => ?_)
      refine g_iload_n (i := 1) C dX7_takeDairy_108 rfl rfl ?_
      refine g_aload_n (i := 0) C dX7_takeDairy_109 rfl rfl ?_
      refine g_getA C f_X7_52 eq21 dX7_takeDairy_110 (fun q27 _ => ?_)
      refine g_iconst (v := 3) C dX7_takeDairy_113 (by decide) ?_
      refine g_iload_n (i := 1) C dX7_takeDairy_114 rfl rfl ?_
      refine g_imul C dX7_takeDairy_115 ?_
      refine g_iald C dX7_takeDairy_116 ?_
      refine g_iast C dX7_takeDairy_117 (fun h28 => ?_)
      refine g_aload_n (i := 0) C dX7_takeDairy_118 rfl rfl ?_
      refine g_getA C f_X7_34 eq21 dX7_takeDairy_119 (fun q29 _ => ?_)
      refine g_iload_n (i := 1) C dX7_takeDairy_122 rfl rfl ?_
      refine g_aload_n (i := 0) C dX7_takeDairy_123 rfl rfl ?_
      refine g_getA C f_X7_52 eq21 dX7_takeDairy_124 (fun q30 _ => ?_)
      refine g_iconst (v := 3) C dX7_takeDairy_127 (by decide) ?_
      refine g_iload_n (i := 1) C dX7_takeDairy_128 rfl rfl ?_
      refine g_imul C dX7_takeDairy_129 ?_
      refine g_iconst (v := 1) C dX7_takeDairy_130 (by decide) ?_
      refine g_iadd C dX7_takeDairy_131 ?_
      refine g_iald C dX7_takeDairy_132 ?_
      refine g_iast C dX7_takeDairy_133 (fun h31 => ?_)
      refine g_aload_n (i := 0) C dX7_takeDairy_134 rfl rfl ?_
      refine g_getA C f_X7_37 eq21 dX7_takeDairy_135 (fun q32 _ => ?_)
      refine g_iload_n (i := 1) C dX7_takeDairy_138 rfl rfl ?_
      refine g_aload_n (i := 0) C dX7_takeDairy_139 rfl rfl ?_
      refine g_getA C f_X7_52 eq21 dX7_takeDairy_140 (fun q33 _ => ?_)
      refine g_iconst (v := 3) C dX7_takeDairy_143 (by decide) ?_
      refine g_iload_n (i := 1) C dX7_takeDairy_144 rfl rfl ?_
      refine g_imul C dX7_takeDairy_145 ?_
      refine g_iconst (v := 2) C dX7_takeDairy_146 (by decide) ?_
      refine g_iadd C dX7_takeDairy_147 ?_
      refine g_iald C dX7_takeDairy_148 ?_
      refine g_iast C dX7_takeDairy_149 (fun h34 => ?_)
      refine g_iinc (i := 1) (w := 1) C (fun yy => [some (.ref (E.2.2.2 + q21)), some (.int yy)]) dX7_takeDairy_150 rfl (by decide) rfl (by decide) rfl (fun _ => rfl) (fun x35 => ?_)
      refine g_goto C 96 dX7_takeDairy_153 (by decide) ?_
      exact ih x35 h34
set_option maxHeartbeats 4000000 in
set_option maxRecDepth 100000 in
theorem c_X7_takeDairy (E : Ev) (o : Nat) (eo : isO shM o 7 = true) (h : Hp) {r : Unit} {h' : Hp} (e : F_X7_takeDairy o h = some (r, h')) : Ctr E shM yX7_takeDairy cX7_takeDairy 2 none 1 [.ref (E.2.2.2 + o)] h (vv r) h' := by
  refine Ctr.ofG (val := vv) e (by decide) (Nat.le_of_ble_eq_true rfl) [some (.ref (E.2.2.2 + o)), none] rfl (fun X C => ?_)
  unfold F_X7_takeDairy
  refine g_aload_n (i := 0) C dX7_takeDairy_0 rfl rfl ?_
  refine g_aload_n (i := 0) C dX7_takeDairy_1 rfl rfl ?_
  refine g_getI C f_X7_116 eo dX7_takeDairy_2 ?_
  refine g_putI C f_X7_86 eo dX7_takeDairy_5 (fun h1 => ?_)
  refine g_aload_n (i := 0) C dX7_takeDairy_8 rfl rfl ?_
  refine g_aload_n (i := 0) C dX7_takeDairy_9 rfl rfl ?_
  refine g_getI C f_X7_119 eo dX7_takeDairy_10 ?_
  refine g_putI C f_X7_83 eo dX7_takeDairy_13 (fun h2 => ?_)
  refine g_aload_n (i := 0) C dX7_takeDairy_16 rfl rfl ?_
  refine g_aload_n (i := 0) C dX7_takeDairy_17 rfl rfl ?_
  refine g_getI C f_X7_122 eo dX7_takeDairy_18 ?_
  refine g_putI C f_X7_89 eo dX7_takeDairy_21 (fun h3 => ?_)
  refine g_iconst (v := 0) C dX7_takeDairy_24 (by decide) ?_
  refine g_istore_n (i := 1) C [some (.ref (E.2.2.2 + o)), some (.int (0 : Int32))] dX7_takeDairy_25 rfl (by decide) rfl rfl ?_
  refine G_F_X7_takeDairy_L26 C _ o (fun h20 => ?_) eo FU (0 : Int32) h3
  refine g_iconst (v := 0) C dX7_takeDairy_94 (by decide) ?_
  refine g_istore_n (i := 1) C [some (.ref (E.2.2.2 + o)), some (.int (0 : Int32))] dX7_takeDairy_95 rfl (by decide) rfl rfl ?_
  exact G_F_X7_takeDairy_L96 C o eo FU (0 : Int32) h20
set_option maxHeartbeats 4000000 in
set_option maxRecDepth 100000 in
theorem c_X7_dairy (E : Ev) (o : Nat) (p0 : Int32) (p1 : Int32) (p2 : Int32) (p3 : Int32) (eo : isO shM o 7 = true) (h : Hp) {r : Int32} {h' : Hp} (e : F_X7_dairy o p0 p1 p2 p3 h = some (r, h')) : Ctr E shM yX7_dairy cX7_dairy 7 (some .int) 5 [.ref (E.2.2.2 + o), .int p0, .int p1, .int p2, .int p3] h (vi r) h' := by
  refine Ctr.ofG (val := vi) e (by decide) (Nat.le_of_ble_eq_true rfl) [some (.ref (E.2.2.2 + o)), some (.int p0), some (.int p1), some (.int p2), some (.int p3), none, none] rfl (fun X C => ?_)
  unfold F_X7_dairy
  refine g_aload_n (i := 0) C dX7_dairy_0 rfl rfl ?_
  refine g_iconst (v := 0) C dX7_dairy_1 (by decide) ?_
  refine g_putI C f_X7_73 eo dX7_dairy_2 (fun h1 => ?_)
  refine g_iload_n (i := 1) C dX7_dairy_5 rfl rfl ?_
  refine g_cSi1 C cf_X7_95 aw_30 (fun r h' e => c_X7_isSheet E p0 h1 e) (by decide) (by decide) (Nat.le_of_ble_eq_true rfl) dX7_dairy_6 (fun r3 h2 _ => ?_)
  refine g_if_ne C 14 dX7_dairy_9 (by decide) (fun hc18 => ?_) (fun hc18 => ?_)
  · refine g_iconst (v := -1) C dX7_dairy_12 (by decide) ?_
    exact g_ireti C dX7_dairy_13
  · refine g_iload_n (i := 2) C dX7_dairy_14 rfl rfl ?_
    refine g_cSi1 C cf_X7_99 aw_29 (fun r h' e => c_X7_isSort E p1 h2 e) (by decide) (by decide) (Nat.le_of_ble_eq_true rfl) dX7_dairy_15 (fun r5 h4 _ => ?_)
    refine g_if_ne C 24 dX7_dairy_18 (by decide) (fun hc17 => ?_) (fun hc17 => ?_)
    · refine g_bipush (v := -2) C dX7_dairy_21 (by decide) ?_
      exact g_ireti C dX7_dairy_23
    · refine g_aload_n (i := 0) C dX7_dairy_24 rfl rfl ?_
      refine g_iload_n (i := 1) C dX7_dairy_25 rfl rfl ?_
      refine g_iload_n (i := 2) C dX7_dairy_26 rfl rfl ?_
      refine g_iload_n (i := 3) C dX7_dairy_27 rfl rfl ?_
      refine g_iload (i := 4) C dX7_dairy_28 rfl ?_
      refine g_cVi4 C cf_X7_102 cv_X7_against eo (fun r h' e => c_X7_against E o p0 p1 p2 p3 eo h4 e) (by decide) (by decide) (Nat.le_of_ble_eq_true rfl) dX7_dairy_30 (fun r7 h6 _ => ?_)
      refine g_istore (i := 5) C [some (.ref (E.2.2.2 + o)), some (.int p0), some (.int p1), some (.int p2), some (.int p3), some (.int r7), none] dX7_dairy_33 (by decide) rfl rfl ?_
      refine g_iload (i := 5) C dX7_dairy_35 rfl ?_
      refine g_if_eq C 47 dX7_dairy_37 (by decide) (fun hc16 => ?_) (fun hc16 => ?_)
      · refine g_bipush (v := 60) C dX7_dairy_47 (by decide) ?_
        refine g_iload_n (i := 1) C dX7_dairy_49 rfl rfl ?_
        refine g_imul C dX7_dairy_50 ?_
        refine g_iload_n (i := 3) C dX7_dairy_51 rfl rfl ?_
        refine g_iadd C dX7_dairy_52 ?_
        refine g_topi (fun x8 => ?_)
        refine g_istore (i := 6) C [some (.ref (E.2.2.2 + o)), some (.int p0), some (.int p1), some (.int p2), some (.int p3), some (.int r7), some (.int x8)] dX7_dairy_53 (by decide) rfl rfl ?_
        refine g_aload_n (i := 0) C dX7_dairy_55 rfl rfl ?_
        refine g_iload (i := 6) C dX7_dairy_56 rfl ?_
        refine g_putI C f_X7_92 eo dX7_dairy_58 (fun h9 => ?_)
        refine g_aload_n (i := 0) C dX7_dairy_61 rfl rfl ?_
        refine g_iload (i := 6) C dX7_dairy_62 rfl ?_
        refine g_iload (i := 4) C dX7_dairy_64 rfl ?_
        refine g_iadd C dX7_dairy_66 ?_
        refine g_cVi1 C cf_X7_110 cv_X7_readDairy eo (fun r h' e => c_X7_readDairy E o (x8 + p3) eo h9 e) (by decide) (by decide) (Nat.le_of_ble_eq_true rfl) dX7_dairy_67 (fun r11 h10 _ => ?_)
        refine g_if_ne C 84 dX7_dairy_70 (by decide) (fun hc13 => ?_) (fun hc13 => ?_)
        · refine g_bipush (v := -100) C dX7_dairy_73 (by decide) ?_
          refine g_aload_n (i := 0) C dX7_dairy_75 rfl rfl ?_
          refine g_getI C f_X7_92 eo dX7_dairy_76 ?_
          refine g_iload (i := 6) C dX7_dairy_79 rfl ?_
          refine g_isub C dX7_dairy_81 ?_
          refine g_isub C dX7_dairy_82 ?_
          exact g_ireti C dX7_dairy_83
        · refine g_aload_n (i := 0) C dX7_dairy_84 rfl rfl ?_
          refine g_cVv0 C cf_X7_113 cv_X7_takeDairy eo (fun r h' e => c_X7_takeDairy E o eo h10 e) (by decide) (by decide) (Nat.le_of_ble_eq_true rfl) dX7_dairy_85 (fun _ h12 _ => ?_)
          refine g_aload_n (i := 0) C dX7_dairy_88 rfl rfl ?_
          refine g_getI C f_X7_89 eo dX7_dairy_89 ?_
          exact g_ireti C dX7_dairy_92
      · refine g_aload_n (i := 0) C dX7_dairy_40 rfl rfl ?_
        refine g_iload (i := 5) C dX7_dairy_41 rfl ?_
        refine g_cVi1 C cf_X7_106 cv_X7_fails eo (fun r h' e => c_X7_fails E o r7 eo h6 e) (by decide) (by decide) (Nat.le_of_ble_eq_true rfl) dX7_dairy_43 (fun r15 h14 _ => ?_)
        exact g_ireti C dX7_dairy_46
set_option maxHeartbeats 4000000 in
set_option maxRecDepth 100000 in
theorem c_X7_isWord (E : Ev) (p0 : Int32) (h : Hp) {r : Int32} {h' : Hp} (e : F_X7_isWord p0 h = some (r, h')) : Ctr E shM yX7_isWord cX7_isWord 1 (some .boolean) 2 [.int p0] h (vi r) h' := by
  refine Ctr.ofG (val := vi) e (by decide) (Nat.le_of_ble_eq_true rfl) [some (.int p0)] rfl (fun X C => ?_)
  unfold F_X7_isWord
  refine g_iload_n (i := 0) C dX7_isWord_0 rfl rfl ?_
  refine g_iconst (v := 0) C dX7_isWord_1 (by decide) ?_
  refine g_bipush (v := 7) C dX7_isWord_2 (by decide) ?_
  refine g_cSi3 C cf_X7_79 aw_27 (fun r h' e => c_X7_within E p0 (0 : Int32) (7 : Int32) h e) (by decide) (by decide) (Nat.le_of_ble_eq_true rfl) dX7_isWord_4 (fun r2 h1 _ => ?_)
  exact g_iretb C dX7_isWord_7
set_option maxHeartbeats 4000000 in
set_option maxRecDepth 100000 in
theorem G_F_X7_deep_L26 {E : Ev} {X : Cx} (C : Ok E X cX7_deep RX7 5 (some .int) 4) (q7 : Nat) (x8 : Int32) (x9 : Int32) (eq7 : isO shM q7 7 = true) : ∀ (N : Nat) (x10 : Int32) (h11 : Hp), G E shM X vi 26 [some (.ref (E.2.2.2 + q7)), none, some (.int x8), some (.int x9), some (.int x10)] [] h11 (F_X7_deep_L26 q7 x8 x9 N x10 h11) := by
  intro N
  induction N with
  | zero =>
    intro _ _
    exact g_none
  | succ N ih =>
    intro x10 h11
    rw [F_X7_deep_L26]
    refine g_iload (i := 4) C dX7_deep_26 rfl ?_
    refine g_iload_n (i := 3) C dX7_deep_28 rfl rfl ?_
    refine g_cSi1 C cf_X7_179 aw_26 (fun r h' e => c_X7_size E x9 h11 e) (by decide) (by decide) (Nat.le_of_ble_eq_true rfl) dX7_deep_29 (fun r13 h12 _ => ?_)
    refine g_icmp_ge C 62 dX7_deep_32 (by decide) (fun hc19 => ?_) (fun hc19 => ?_)
    · refine g_bipush (v := -9) C dX7_deep_62 (by decide) ?_
      exact g_ireti C dX7_deep_64
    · refine g_aload_n (i := 0) C dX7_deep_35 rfl rfl ?_
      refine g_getA C f_X7_37 eq7 dX7_deep_36 (fun q14 _ => ?_)
      refine g_aload_n (i := 0) C dX7_deep_39 rfl rfl ?_
      refine g_iload_n (i := 3) C dX7_deep_40 rfl rfl ?_
      refine g_iload (i := 4) C dX7_deep_41 rfl ?_
      refine g_cVi2 C cf_X7_173 cv_X7_layerOf eq7 (fun r h' e => c_X7_layerOf E q7 x9 x10 eq7 h12 e) (by decide) (by decide) (Nat.le_of_ble_eq_true rfl) dX7_deep_43 (fun r16 h15 _ => ?_)
      refine g_iald C dX7_deep_46 ?_
      refine g_iload_n (i := 2) C dX7_deep_47 rfl rfl ?_
      refine g_icmp_ne C 56 dX7_deep_48 (by decide) (fun hc18 => ?_) (fun hc18 => ?_)
      · refine g_iload (i := 4) C dX7_deep_51 rfl ?_
        refine g_iconst (v := 1) C dX7_deep_53 (by decide) ?_
        refine g_iadd C dX7_deep_54 ?_
        exact g_ireti C dX7_deep_55
      · refine g_iinc (i := 4) (w := 1) C (fun yy => [some (.ref (E.2.2.2 + q7)), none, some (.int x8), some (.int x9), some (.int yy)]) dX7_deep_56 rfl (by decide) rfl (by decide) rfl (fun _ => rfl) (fun x17 => ?_)
        refine g_goto C 26 dX7_deep_59 (by decide) ?_
        exact ih x17 h15
set_option maxHeartbeats 4000000 in
set_option maxRecDepth 100000 in
theorem c_X7_deep (E : Ev) (o : Nat) (p0 : Int32) (p1 : Int32) (eo : isO shM o 7 = true) (h : Hp) {r : Int32} {h' : Hp} (e : F_X7_deep o p0 p1 h = some (r, h')) : Ctr E shM yX7_deep cX7_deep 5 (some .int) 4 [.ref (E.2.2.2 + o), .int p0, .int p1] h (vi r) h' := by
  refine Ctr.ofG (val := vi) e (by decide) (Nat.le_of_ble_eq_true rfl) [some (.ref (E.2.2.2 + o)), some (.int p0), some (.int p1), none, none] rfl (fun X C => ?_)
  unfold F_X7_deep
  refine g_aload_n (i := 0) C dX7_deep_0 rfl rfl ?_
  refine g_iload_n (i := 1) C dX7_deep_1 rfl rfl ?_
  refine g_cVi1 C cf_X7_145 cv_X7_isCheese eo (fun r h' e => c_X7_isCheese E o p0 eo h e) (by decide) (by decide) (Nat.le_of_ble_eq_true rfl) dX7_deep_2 (fun r2 h1 _ => ?_)
  refine g_if_eq C 15 dX7_deep_5 (by decide) (fun hc21 => ?_) (fun hc21 => ?_)
  · refine g_iconst (v := -1) C dX7_deep_15 (by decide) ?_
    exact g_ireti C dX7_deep_16
  · refine g_iload_n (i := 2) C dX7_deep_8 rfl rfl ?_
    refine g_cSi1 C cf_X7_176 aw_31 (fun r h' e => c_X7_isWord E p1 h1 e) (by decide) (by decide) (Nat.le_of_ble_eq_true rfl) dX7_deep_9 (fun r4 h3 _ => ?_)
    refine g_if_ne C 17 dX7_deep_12 (by decide) (fun hc20 => ?_) (fun hc20 => ?_)
    · refine g_iconst (v := -1) C dX7_deep_15 (by decide) ?_
      exact g_ireti C dX7_deep_16
    · refine g_aload_n (i := 0) C dX7_deep_17 rfl rfl ?_
      refine g_iload_n (i := 1) C dX7_deep_18 rfl rfl ?_
      refine g_cVi1 C cf_X7_170 cv_X7_heardBy eo (fun r h' e => c_X7_heardBy E o p0 eo h3 e) (by decide) (by decide) (Nat.le_of_ble_eq_true rfl) dX7_deep_19 (fun r6 h5 _ => ?_)
      refine g_istore_n (i := 3) C [some (.ref (E.2.2.2 + o)), some (.int p0), some (.int p1), some (.int r6), none] dX7_deep_22 rfl (by decide) rfl rfl ?_
      refine g_iconst (v := 0) C dX7_deep_23 (by decide) ?_
      refine g_istore (i := 4) C [some (.ref (E.2.2.2 + o)), some (.int p0), some (.int p1), some (.int r6), some (.int (0 : Int32))] dX7_deep_24 (by decide) rfl rfl ?_
      refine g_drop (i := 1) [some (.ref (E.2.2.2 + o)), none, some (.int p1), some (.int r6), some (.int (0 : Int32))] rfl ?_
      exact G_F_X7_deep_L26 C o p1 r6 eo FU (0 : Int32) h5
set_option maxHeartbeats 4000000 in
set_option maxRecDepth 100000 in
theorem c_X7_fault (E : Ev) (o : Nat) (eo : isO shM o 7 = true) (h : Hp) {r : Int32} {h' : Hp} (e : F_X7_fault o h = some (r, h')) : Ctr E shM yX7_fault cX7_fault 1 (some .int) 1 [.ref (E.2.2.2 + o)] h (vi r) h' := by
  refine Ctr.ofG (val := vi) e (by decide) (Nat.le_of_ble_eq_true rfl) [some (.ref (E.2.2.2 + o))] rfl (fun X C => ?_)
  unfold F_X7_fault
  refine g_aload_n (i := 0) C dX7_fault_0 rfl rfl ?_
  refine g_getI C f_X7_73 eo dX7_fault_1 ?_
  exact g_ireti C dX7_fault_4
set_option maxHeartbeats 4000000 in
set_option maxRecDepth 100000 in
theorem G_F_X7_rowsOf_L4 {E : Ev} {X : Cx} (C : Ok E X cX7_rowsOf RX7 4 (some .int) 1) (q1 : Nat) (x2 : Int32) (eq1 : isO shM q1 7 = true) : ∀ (N : Nat) (x3 : Int32) (x4 : Int32) (h5 : Hp), G E shM X vi 4 [some (.ref (E.2.2.2 + q1)), some (.int x2), some (.int x3), some (.int x4)] [] h5 (F_X7_rowsOf_L4 q1 x2 N x3 x4 h5) := by
  intro N
  induction N with
  | zero =>
    intro _ _ _
    exact g_none
  | succ N ih =>
    intro x3 x4 h5
    rw [F_X7_rowsOf_L4]
    refine g_iload_n (i := 3) C dX7_rowsOf_4 rfl rfl ?_
    refine g_aload_n (i := 0) C dX7_rowsOf_5 rfl rfl ?_
    refine g_getI C f_X7_83 eq1 dX7_rowsOf_6 ?_
    refine g_icmp_ge C 22 dX7_rowsOf_9 (by decide) (fun hc8 => ?_) (fun hc8 => ?_)
    · refine g_iload_n (i := 2) C dX7_rowsOf_22 rfl rfl ?_
      exact g_ireti C dX7_rowsOf_23
    · refine g_iload_n (i := 2) C dX7_rowsOf_12 rfl rfl ?_
      refine g_iload_n (i := 1) C dX7_rowsOf_13 rfl rfl ?_
      refine g_imul C dX7_rowsOf_14 ?_
      refine g_topi (fun x6 => ?_)
      refine g_istore_n (i := 2) C [some (.ref (E.2.2.2 + q1)), some (.int x2), some (.int x6), some (.int x4)] dX7_rowsOf_15 rfl (by decide) rfl rfl ?_
      refine g_iinc (i := 3) (w := 1) C (fun yy => [some (.ref (E.2.2.2 + q1)), some (.int x2), some (.int x6), some (.int yy)]) dX7_rowsOf_16 rfl (by decide) rfl (by decide) rfl (fun _ => rfl) (fun x7 => ?_)
      refine g_goto C 4 dX7_rowsOf_19 (by decide) ?_
      exact ih x6 x7 h5
set_option maxHeartbeats 4000000 in
set_option maxRecDepth 100000 in
theorem c_X7_rowsOf (E : Ev) (o : Nat) (p0 : Int32) (eo : isO shM o 7 = true) (h : Hp) {r : Int32} {h' : Hp} (e : F_X7_rowsOf o p0 h = some (r, h')) : Ctr E shM yX7_rowsOf cX7_rowsOf 4 (some .int) 1 [.ref (E.2.2.2 + o), .int p0] h (vi r) h' := by
  refine Ctr.ofG (val := vi) e (by decide) (Nat.le_of_ble_eq_true rfl) [some (.ref (E.2.2.2 + o)), some (.int p0), none, none] rfl (fun X C => ?_)
  unfold F_X7_rowsOf
  refine g_iconst (v := 1) C dX7_rowsOf_0 (by decide) ?_
  refine g_istore_n (i := 2) C [some (.ref (E.2.2.2 + o)), some (.int p0), some (.int (1 : Int32)), none] dX7_rowsOf_1 rfl (by decide) rfl rfl ?_
  refine g_iconst (v := 0) C dX7_rowsOf_2 (by decide) ?_
  refine g_istore_n (i := 3) C [some (.ref (E.2.2.2 + o)), some (.int p0), some (.int (1 : Int32)), some (.int (0 : Int32))] dX7_rowsOf_3 rfl (by decide) rfl rfl ?_
  exact G_F_X7_rowsOf_L4 C o p0 eo FU (1 : Int32) (0 : Int32) h
set_option maxHeartbeats 4000000 in
set_option maxRecDepth 100000 in
theorem G_F_X7_layRow_L10 {E : Ev} {X : Cx} (C : Ok E X cX7_layRow RX7 5 none 1) (q2 : Nat) (x3 : Int32) (eq2 : isO shM q2 7 = true) : ∀ (N : Nat) (x4 : Int32) (x5 : Int32) (h6 : Hp), G E shM X vv 10 [some (.ref (E.2.2.2 + q2)), none, some (.int x3), some (.int x4), some (.int x5)] [] h6 (F_X7_layRow_L10 q2 x3 N x4 x5 h6) := by
  intro N
  induction N with
  | zero =>
    intro _ _ _
    exact g_none
  | succ N ih =>
    intro x4 x5 h6
    rw [F_X7_layRow_L10]
    refine g_iload (i := 4) C dX7_layRow_10 rfl ?_
    refine g_if_lt C 35 dX7_layRow_12 (by decide) (fun hc13 => ?_) (fun hc13 => ?_)
    · exact g_vret C dX7_layRow_35
    · refine g_aload_n (i := 0) C dX7_layRow_15 rfl rfl ?_
      refine g_getA C f_X7_55 eq2 dX7_layRow_16 (fun q7 _ => ?_)
      refine g_iload (i := 4) C dX7_layRow_19 rfl ?_
      refine g_iload_n (i := 3) C dX7_layRow_21 rfl rfl ?_
      refine g_iload_n (i := 2) C dX7_layRow_22 rfl rfl ?_
      refine g_ck (fun hz12 => ?_)
      refine g_irem C dX7_layRow_23 (by simpa using hz12) ?_
      refine g_iast C dX7_layRow_24 (fun h8 => ?_)
      refine g_iload_n (i := 3) C dX7_layRow_25 rfl rfl ?_
      refine g_iload_n (i := 2) C dX7_layRow_26 rfl rfl ?_
      refine g_ck (fun hz11 => ?_)
      refine g_idiv C dX7_layRow_27 (by simpa using hz11) ?_
      refine g_topi (fun x9 => ?_)
      refine g_istore_n (i := 3) C [some (.ref (E.2.2.2 + q2)), none, some (.int x3), some (.int x9), some (.int x5)] dX7_layRow_28 rfl (by decide) rfl rfl ?_
      refine g_iinc (i := 4) (w := -1) C (fun yy => [some (.ref (E.2.2.2 + q2)), none, some (.int x3), some (.int x9), some (.int yy)]) dX7_layRow_29 rfl (by decide) rfl (by decide) rfl (fun _ => rfl) (fun x10 => ?_)
      refine g_goto C 10 dX7_layRow_32 (by decide) ?_
      exact ih x9 x10 h8
set_option maxHeartbeats 4000000 in
set_option maxRecDepth 100000 in
theorem c_X7_layRow (E : Ev) (o : Nat) (p0 : Int32) (p1 : Int32) (eo : isO shM o 7 = true) (h : Hp) {r : Unit} {h' : Hp} (e : F_X7_layRow o p0 p1 h = some (r, h')) : Ctr E shM yX7_layRow cX7_layRow 5 none 1 [.ref (E.2.2.2 + o), .int p0, .int p1] h (vv r) h' := by
  refine Ctr.ofG (val := vv) e (by decide) (Nat.le_of_ble_eq_true rfl) [some (.ref (E.2.2.2 + o)), some (.int p0), some (.int p1), none, none] rfl (fun X C => ?_)
  unfold F_X7_layRow
  refine g_iload_n (i := 1) C dX7_layRow_0 rfl rfl ?_
  refine g_istore_n (i := 3) C [some (.ref (E.2.2.2 + o)), some (.int p0), some (.int p1), some (.int p0), none] dX7_layRow_1 rfl (by decide) rfl rfl ?_
  refine g_aload_n (i := 0) C dX7_layRow_2 rfl rfl ?_
  refine g_getI C f_X7_83 eo dX7_layRow_3 ?_
  refine g_iconst (v := 1) C dX7_layRow_6 (by decide) ?_
  refine g_isub C dX7_layRow_7 ?_
  refine g_topi (fun x1 => ?_)
  refine g_istore (i := 4) C [some (.ref (E.2.2.2 + o)), some (.int p0), some (.int p1), some (.int p0), some (.int x1)] dX7_layRow_8 (by decide) rfl rfl ?_
  refine g_drop (i := 1) [some (.ref (E.2.2.2 + o)), none, some (.int p1), some (.int p0), some (.int x1)] rfl ?_
  exact G_F_X7_layRow_L10 C o p1 eo FU p0 x1 h
set_option maxHeartbeats 4000000 in
set_option maxRecDepth 100000 in
theorem G_F_X7_wordsHeard_L4 {E : Ev} {X : Cx} (C : Ok E X cX7_wordsHeard RX7 3 (some .int) 4) (k32 : Int32 → Hp → Option (Int32 × Hp)) (q1 : Nat) (hk32 : ∀ (z1 : Int32) (hh : Hp), G E shM X vi 32 [none, some (.int z1), none] [] hh (k32 z1 hh)) (eq1 : isO shM q1 7 = true) : ∀ (N : Nat) (x2 : Int32) (x3 : Int32) (h4 : Hp), G E shM X vi 4 [some (.ref (E.2.2.2 + q1)), some (.int x2), some (.int x3)] [] h4 (F_X7_wordsHeard_L4 k32 q1 N x2 x3 h4) := by
  intro N
  induction N with
  | zero =>
    intro _ _ _
    exact g_none
  | succ N ih =>
    intro x2 x3 h4
    rw [F_X7_wordsHeard_L4]
    refine g_iload_n (i := 2) C dX7_wordsHeard_4 rfl rfl ?_
    refine g_aload_n (i := 0) C dX7_wordsHeard_5 rfl rfl ?_
    refine g_getI C f_X7_83 eq1 dX7_wordsHeard_6 ?_
    refine g_icmp_ge C 32 dX7_wordsHeard_9 (by decide) (fun hc11 => ?_) (fun hc11 => ?_)
    · refine g_drop (i := 0) [none, some (.int x2), some (.int x3)] rfl ?_
      refine g_drop (i := 2) [none, some (.int x2), none] rfl ?_
      exact hk32 x2 h4
    · refine g_iload_n (i := 1) C dX7_wordsHeard_12 rfl rfl ?_
      refine g_aload_n (i := 0) C dX7_wordsHeard_13 rfl rfl ?_
      refine g_aload_n (i := 0) C dX7_wordsHeard_14 rfl rfl ?_
      refine g_iload_n (i := 2) C dX7_wordsHeard_15 rfl rfl ?_
      refine g_cVi1 C cf_X7_170 cv_X7_heardBy eq1 (fun r h' e => c_X7_heardBy E q1 x3 eq1 h4 e) (by decide) (by decide) (Nat.le_of_ble_eq_true rfl) dX7_wordsHeard_16 (fun r6 h5 _ => ?_)
      refine g_bipush (v := 8) C dX7_wordsHeard_19 (by decide) ?_
      refine g_cVi2 C cf_X7_182 cv_X7_wordsOf eq1 (fun r h' e => c_X7_wordsOf E q1 r6 (8 : Int32) eq1 h5 e) (by decide) (by decide) (Nat.le_of_ble_eq_true rfl) dX7_wordsHeard_21 (fun r8 h7 _ => ?_)
      refine g_ior C dX7_wordsHeard_24 ?_
      refine g_topi (fun x9 => ?_)
      refine g_istore_n (i := 1) C [some (.ref (E.2.2.2 + q1)), some (.int x9), some (.int x3)] dX7_wordsHeard_25 rfl (by decide) rfl rfl ?_
      refine g_iinc (i := 2) (w := 1) C (fun yy => [some (.ref (E.2.2.2 + q1)), some (.int x9), some (.int yy)]) dX7_wordsHeard_26 rfl (by decide) rfl (by decide) rfl (fun _ => rfl) (fun x10 => ?_)
      refine g_goto C 4 dX7_wordsHeard_29 (by decide) ?_
      exact ih x9 x10 h7
set_option maxHeartbeats 4000000 in
set_option maxRecDepth 100000 in
theorem c_X7_wordsHeard (E : Ev) (o : Nat) (eo : isO shM o 7 = true) (h : Hp) {r : Int32} {h' : Hp} (e : F_X7_wordsHeard o h = some (r, h')) : Ctr E shM yX7_wordsHeard cX7_wordsHeard 3 (some .int) 4 [.ref (E.2.2.2 + o)] h (vi r) h' := by
  refine Ctr.ofG (val := vi) e (by decide) (Nat.le_of_ble_eq_true rfl) [some (.ref (E.2.2.2 + o)), none, none] rfl (fun X C => ?_)
  unfold F_X7_wordsHeard
  refine g_iconst (v := 0) C dX7_wordsHeard_0 (by decide) ?_
  refine g_istore_n (i := 1) C [some (.ref (E.2.2.2 + o)), some (.int (0 : Int32)), none] dX7_wordsHeard_1 rfl (by decide) rfl rfl ?_
  refine g_iconst (v := 0) C dX7_wordsHeard_2 (by decide) ?_
  refine g_istore_n (i := 2) C [some (.ref (E.2.2.2 + o)), some (.int (0 : Int32)), some (.int (0 : Int32))] dX7_wordsHeard_3 rfl (by decide) rfl rfl ?_
  refine G_F_X7_wordsHeard_L4 C _ o (fun w12 h13 => ?_) eo FU (0 : Int32) (0 : Int32) h
  refine g_iload_n (i := 1) C dX7_wordsHeard_32 rfl rfl ?_
  refine g_cSi1 C cf_X7_179 aw_26 (fun r h' e => c_X7_size E w12 h13 e) (by decide) (by decide) (Nat.le_of_ble_eq_true rfl) dX7_wordsHeard_33 (fun r15 h14 _ => ?_)
  exact g_ireti C dX7_wordsHeard_36
set_option maxHeartbeats 4000000 in
set_option maxRecDepth 100000 in
theorem G_F_X7_keepRow_L2 {E : Ev} {X : Cx} (C : Ok E X cX7_keepRow RX7 2 none 1) (q1 : Nat) (eq1 : isO shM q1 7 = true) : ∀ (N : Nat) (x2 : Int32) (h3 : Hp), G E shM X vv 2 [some (.ref (E.2.2.2 + q1)), some (.int x2)] [] h3 (F_X7_keepRow_L2 q1 N x2 h3) := by
  intro N
  induction N with
  | zero =>
    intro _ _
    exact g_none
  | succ N ih =>
    intro x2 h3
    rw [F_X7_keepRow_L2]
    refine g_iload_n (i := 1) C dX7_keepRow_2 rfl rfl ?_
    refine g_aload_n (i := 0) C dX7_keepRow_3 rfl rfl ?_
    refine g_getI C f_X7_83 eq1 dX7_keepRow_4 ?_
    refine g_icmp_ge C 28 dX7_keepRow_7 (by decide) (fun hc8 => ?_) (fun hc8 => ?_)
    · exact g_vret C dX7_keepRow_28
    · refine g_aload_n (i := 0) C dX7_keepRow_10 rfl rfl ?_
      refine g_getA C f_X7_58 eq1 dX7_keepRow_11 (fun q4 _ => ?_)
      refine g_iload_n (i := 1) C dX7_keepRow_14 rfl rfl ?_
      refine g_aload_n (i := 0) C dX7_keepRow_15 rfl rfl ?_
      refine g_getA C f_X7_55 eq1 dX7_keepRow_16 (fun q5 _ => ?_)
      refine g_iload_n (i := 1) C dX7_keepRow_19 rfl rfl ?_
      refine g_iald C dX7_keepRow_20 ?_
      refine g_iast C dX7_keepRow_21 (fun h6 => ?_)
      refine g_iinc (i := 1) (w := 1) C (fun yy => [some (.ref (E.2.2.2 + q1)), some (.int yy)]) dX7_keepRow_22 rfl (by decide) rfl (by decide) rfl (fun _ => rfl) (fun x7 => ?_)
      refine g_goto C 2 dX7_keepRow_25 (by decide) ?_
      exact ih x7 h6
set_option maxHeartbeats 4000000 in
set_option maxRecDepth 100000 in
theorem c_X7_keepRow (E : Ev) (o : Nat) (eo : isO shM o 7 = true) (h : Hp) {r : Unit} {h' : Hp} (e : F_X7_keepRow o h = some (r, h')) : Ctr E shM yX7_keepRow cX7_keepRow 2 none 1 [.ref (E.2.2.2 + o)] h (vv r) h' := by
  refine Ctr.ofG (val := vv) e (by decide) (Nat.le_of_ble_eq_true rfl) [some (.ref (E.2.2.2 + o)), none] rfl (fun X C => ?_)
  unfold F_X7_keepRow
  refine g_iconst (v := 0) C dX7_keepRow_0 (by decide) ?_
  refine g_istore_n (i := 1) C [some (.ref (E.2.2.2 + o)), some (.int (0 : Int32))] dX7_keepRow_1 rfl (by decide) rfl rfl ?_
  exact G_F_X7_keepRow_L2 C o eo FU (0 : Int32) h
set_option maxHeartbeats 4000000 in
set_option maxRecDepth 100000 in
theorem G_F_X7_findShelves_L12 {E : Ev} {X : Cx} (C : Ok E X cX7_findShelves RX7 5 (some .int) 5) (k38 : Hp → Option (Int32 × Hp)) (q3 : Nat) (x4 : Int32) (hk38 : ∀ (hh : Hp), G E shM X vi 38 [some (.ref (E.2.2.2 + q3)), some (.int x4), none, none, none] [] hh (k38 hh)) (eq3 : isO shM q3 7 = true) : ∀ (N : Nat) (x5 : Int32) (h6 : Hp), G E shM X vi 12 [some (.ref (E.2.2.2 + q3)), some (.int x4), some (.int x5), none, none] [] h6 (F_X7_findShelves_L12 k38 q3 x4 N x5 h6) := by
  intro N
  induction N with
  | zero =>
    intro _ _
    exact g_none
  | succ N ih =>
    intro x5 h6
    rw [F_X7_findShelves_L12]
    refine g_iload_n (i := 2) C dX7_findShelves_12 rfl rfl ?_
    refine g_aload_n (i := 0) C dX7_findShelves_13 rfl rfl ?_
    refine g_getI C f_X7_83 eq3 dX7_findShelves_14 ?_
    refine g_icmp_ge C 38 dX7_findShelves_17 (by decide) (fun hc11 => ?_) (fun hc11 => ?_)
    · refine g_drop (i := 2) [some (.ref (E.2.2.2 + q3)), some (.int x4), none, none, none] rfl ?_
      exact hk38 h6
    · refine g_aload_n (i := 0) C dX7_findShelves_20 rfl rfl ?_
      refine g_getA C f_X7_61 eq3 dX7_findShelves_21 (fun q7 _ => ?_)
      refine g_iload_n (i := 2) C dX7_findShelves_24 rfl rfl ?_
      refine g_aload_n (i := 0) C dX7_findShelves_25 rfl rfl ?_
      refine g_getA C f_X7_22 eq3 dX7_findShelves_26 (fun q8 _ => ?_)
      refine g_iload_n (i := 2) C dX7_findShelves_29 rfl rfl ?_
      refine g_iald C dX7_findShelves_30 ?_
      refine g_iast C dX7_findShelves_31 (fun h9 => ?_)
      refine g_iinc (i := 2) (w := 1) C (fun yy => [some (.ref (E.2.2.2 + q3)), some (.int x4), some (.int yy), none, none]) dX7_findShelves_32 rfl (by decide) rfl (by decide) rfl (fun _ => rfl) (fun x10 => ?_)
      refine g_goto C 12 dX7_findShelves_35 (by decide) ?_
      exact ih x10 h9
set_option maxHeartbeats 4000000 in
set_option maxRecDepth 100000 in
theorem G_F_X7_findShelves_L67 {E : Ev} {X : Cx} (C : Ok E X cX7_findShelves RX7 5 (some .int) 5) (k96 : Hp → Option (Int32 × Hp)) (q21 : Nat) (x22 : Int32) (x23 : Int32) (x24 : Int32) (hk96 : ∀ (hh : Hp), G E shM X vi 96 [some (.ref (E.2.2.2 + q21)), some (.int x22), some (.int x23), some (.int x24), none] [] hh (k96 hh)) (eq21 : isO shM q21 7 = true) : ∀ (N : Nat) (x25 : Int32) (h26 : Hp), G E shM X vi 67 [some (.ref (E.2.2.2 + q21)), some (.int x22), some (.int x23), some (.int x24), some (.int x25)] [] h26 (F_X7_findShelves_L67 k96 q21 x22 x23 x24 N x25 h26) := by
  intro N
  induction N with
  | zero =>
    intro _ _
    exact g_none
  | succ N ih =>
    intro x25 h26
    rw [F_X7_findShelves_L67]
    refine g_iload (i := 4) C dX7_findShelves_67 rfl ?_
    refine g_aload_n (i := 0) C dX7_findShelves_69 rfl rfl ?_
    refine g_getI C f_X7_83 eq21 dX7_findShelves_70 ?_
    refine g_icmp_ge C 96 dX7_findShelves_73 (by decide) (fun hc31 => ?_) (fun hc31 => ?_)
    · refine g_drop (i := 4) [some (.ref (E.2.2.2 + q21)), some (.int x22), some (.int x23), some (.int x24), none] rfl ?_
      exact hk96 h26
    · refine g_aload_n (i := 0) C dX7_findShelves_76 rfl rfl ?_
      refine g_getA C f_X7_22 eq21 dX7_findShelves_77 (fun q27 _ => ?_)
      refine g_iload (i := 4) C dX7_findShelves_80 rfl ?_
      refine g_aload_n (i := 0) C dX7_findShelves_82 rfl rfl ?_
      refine g_getA C f_X7_55 eq21 dX7_findShelves_83 (fun q28 _ => ?_)
      refine g_iload (i := 4) C dX7_findShelves_86 rfl ?_
      refine g_iald C dX7_findShelves_88 ?_
      refine g_iast C dX7_findShelves_89 (fun h29 => ?_)
      refine g_iinc (i := 4) (w := 1) C (fun yy => [some (.ref (E.2.2.2 + q21)), some (.int x22), some (.int x23), some (.int x24), some (.int yy)]) dX7_findShelves_90 rfl (by decide) rfl (by decide) rfl (fun _ => rfl) (fun x30 => ?_)
      refine g_goto C 67 dX7_findShelves_93 (by decide) ?_
      exact ih x30 h29
set_option maxHeartbeats 4000000 in
set_option maxRecDepth 100000 in
theorem G_F_X7_findShelves_L43 {E : Ev} {X : Cx} (C : Ok E X cX7_findShelves RX7 5 (some .int) 5) (k121 : Int32 → Hp → Option (Int32 × Hp)) (q13 : Nat) (x14 : Int32) (hk121 : ∀ (z2 : Int32) (hh : Hp), G E shM X vi 121 [some (.ref (E.2.2.2 + q13)), some (.int x14), some (.int z2), none, none] [] hh (k121 z2 hh)) (eq13 : isO shM q13 7 = true) : ∀ (N : Nat) (x15 : Int32) (x16 : Int32) (h17 : Hp), G E shM X vi 43 [some (.ref (E.2.2.2 + q13)), some (.int x14), some (.int x15), some (.int x16), none] [] h17 (F_X7_findShelves_L43 k121 q13 x14 N x15 x16 h17) := by
  intro N
  induction N with
  | zero =>
    intro _ _ _
    exact g_none
  | succ N ih =>
    intro x15 x16 h17
    rw [F_X7_findShelves_L43]
    refine g_iload_n (i := 3) C dX7_findShelves_43 rfl rfl ?_
    refine g_aload_n (i := 0) C dX7_findShelves_44 rfl rfl ?_
    refine g_aload_n (i := 0) C dX7_findShelves_45 rfl rfl ?_
    refine g_getI C f_X7_86 eq13 dX7_findShelves_46 ?_
    refine g_cVi1 C cf_X7_185 cv_X7_rowsOf eq13 (fun r h' e => c_X7_rowsOf E q13 (h17.1 q13 5) eq13 h17 e) (by decide) (by decide) (Nat.le_of_ble_eq_true rfl) dX7_findShelves_49 (fun r19 h18 _ => ?_)
    refine g_icmp_ge C 121 dX7_findShelves_52 (by decide) (fun hc39 => ?_) (fun hc39 => ?_)
    · refine g_drop (i := 3) [some (.ref (E.2.2.2 + q13)), some (.int x14), some (.int x15), none, none] rfl ?_
      exact hk121 x15 h18
    · refine g_aload_n (i := 0) C dX7_findShelves_55 rfl rfl ?_
      refine g_iload_n (i := 3) C dX7_findShelves_56 rfl rfl ?_
      refine g_aload_n (i := 0) C dX7_findShelves_57 rfl rfl ?_
      refine g_getI C f_X7_86 eq13 dX7_findShelves_58 ?_
      refine g_cVv2 C cf_X7_188 cv_X7_layRow eq13 (fun r h' e => c_X7_layRow E q13 x16 (h18.1 q13 5) eq13 h18 e) (by decide) (by decide) (Nat.le_of_ble_eq_true rfl) dX7_findShelves_61 (fun _ h20 _ => ?_)
      refine g_iconst (v := 0) C dX7_findShelves_64 (by decide) ?_
      refine g_istore (i := 4) C [some (.ref (E.2.2.2 + q13)), some (.int x14), some (.int x15), some (.int x16), some (.int (0 : Int32))] dX7_findShelves_65 (by decide) rfl rfl ?_
      refine G_F_X7_findShelves_L67 C _ q13 x14 x15 x16 (fun h32 => ?_) eq13 FU (0 : Int32) h20
      refine g_aload_n (i := 0) C dX7_findShelves_96 rfl rfl ?_
      refine g_cVi0 C cf_X7_201 cv_X7_wordsHeard eq13 (fun r h' e => c_X7_wordsHeard E q13 eq13 h32 e) (by decide) (by decide) (Nat.le_of_ble_eq_true rfl) dX7_findShelves_97 (fun r34 h33 _ => ?_)
      refine g_istore (i := 4) C [some (.ref (E.2.2.2 + q13)), some (.int x14), some (.int x15), some (.int x16), some (.int r34)] dX7_findShelves_100 (by decide) rfl rfl ?_
      refine g_iload (i := 4) C dX7_findShelves_102 rfl ?_
      refine g_iload_n (i := 2) C dX7_findShelves_104 rfl rfl ?_
      refine g_icmp_le C 115 dX7_findShelves_105 (by decide) (fun hc38 => ?_) (fun hc38 => ?_)
      · refine g_iinc (i := 3) (w := 1) C (fun yy => [some (.ref (E.2.2.2 + q13)), some (.int x14), some (.int x15), some (.int yy), some (.int r34)]) dX7_findShelves_115 rfl (by decide) rfl (by decide) rfl (fun _ => rfl) (fun x35 => ?_)
        refine g_goto C 43 dX7_findShelves_118 (by decide) ?_
        refine g_drop (i := 4) [some (.ref (E.2.2.2 + q13)), some (.int x14), some (.int x15), some (.int x35), none] rfl ?_
        exact ih x15 x35 h33
      · refine g_iload (i := 4) C dX7_findShelves_108 rfl ?_
        refine g_istore_n (i := 2) C [some (.ref (E.2.2.2 + q13)), some (.int x14), some (.int r34), some (.int x16), some (.int r34)] dX7_findShelves_110 rfl (by decide) rfl rfl ?_
        refine g_aload_n (i := 0) C dX7_findShelves_111 rfl rfl ?_
        refine g_cVv0 C cf_X7_195 cv_X7_keepRow eq13 (fun r h' e => c_X7_keepRow E q13 eq13 h33 e) (by decide) (by decide) (Nat.le_of_ble_eq_true rfl) dX7_findShelves_112 (fun _ h36 _ => ?_)
        refine g_iinc (i := 3) (w := 1) C (fun yy => [some (.ref (E.2.2.2 + q13)), some (.int x14), some (.int r34), some (.int yy), some (.int r34)]) dX7_findShelves_115 rfl (by decide) rfl (by decide) rfl (fun _ => rfl) (fun x37 => ?_)
        refine g_goto C 43 dX7_findShelves_118 (by decide) ?_
        refine g_drop (i := 4) [some (.ref (E.2.2.2 + q13)), some (.int x14), some (.int r34), some (.int x37), none] rfl ?_
        exact ih r34 x37 h36
set_option maxHeartbeats 4000000 in
set_option maxRecDepth 100000 in
theorem G_F_X7_findShelves_L123 {E : Ev} {X : Cx} (C : Ok E X cX7_findShelves RX7 5 (some .int) 5) (q42 : Nat) (x43 : Int32) (x44 : Int32) (eq42 : isO shM q42 7 = true) : ∀ (N : Nat) (x45 : Int32) (h46 : Hp), G E shM X vi 123 [some (.ref (E.2.2.2 + q42)), some (.int x43), some (.int x44), some (.int x45), none] [] h46 (F_X7_findShelves_L123 q42 x43 x44 N x45 h46) := by
  intro N
  induction N with
  | zero =>
    intro _ _
    exact g_none
  | succ N ih =>
    intro x45 h46
    rw [F_X7_findShelves_L123]
    refine g_iload_n (i := 3) C dX7_findShelves_123 rfl rfl ?_
    refine g_aload_n (i := 0) C dX7_findShelves_124 rfl rfl ?_
    refine g_getI C f_X7_83 eq42 dX7_findShelves_125 ?_
    refine g_icmp_ge C 149 dX7_findShelves_128 (by decide) (fun hc52 => ?_) (fun hc52 => ?_)
    · refine g_aload_n (i := 0) C dX7_findShelves_149 rfl rfl ?_
      refine g_iload_n (i := 1) C dX7_findShelves_150 rfl rfl ?_
      refine g_putI C f_X7_125 eq42 dX7_findShelves_151 (fun h47 => ?_)
      refine g_iload_n (i := 2) C dX7_findShelves_154 rfl rfl ?_
      exact g_ireti C dX7_findShelves_155
    · refine g_aload_n (i := 0) C dX7_findShelves_131 rfl rfl ?_
      refine g_getA C f_X7_22 eq42 dX7_findShelves_132 (fun q48 _ => ?_)
      refine g_iload_n (i := 3) C dX7_findShelves_135 rfl rfl ?_
      refine g_aload_n (i := 0) C dX7_findShelves_136 rfl rfl ?_
      refine g_getA C f_X7_61 eq42 dX7_findShelves_137 (fun q49 _ => ?_)
      refine g_iload_n (i := 3) C dX7_findShelves_140 rfl rfl ?_
      refine g_iald C dX7_findShelves_141 ?_
      refine g_iast C dX7_findShelves_142 (fun h50 => ?_)
      refine g_iinc (i := 3) (w := 1) C (fun yy => [some (.ref (E.2.2.2 + q42)), some (.int x43), some (.int x44), some (.int yy), none]) dX7_findShelves_143 rfl (by decide) rfl (by decide) rfl (fun _ => rfl) (fun x51 => ?_)
      refine g_goto C 123 dX7_findShelves_146 (by decide) ?_
      exact ih x51 h50
set_option maxHeartbeats 4000000 in
set_option maxRecDepth 100000 in
theorem c_X7_findShelves (E : Ev) (o : Nat) (eo : isO shM o 7 = true) (h : Hp) {r : Int32} {h' : Hp} (e : F_X7_findShelves o h = some (r, h')) : Ctr E shM yX7_findShelves cX7_findShelves 5 (some .int) 5 [.ref (E.2.2.2 + o)] h (vi r) h' := by
  refine Ctr.ofG (val := vi) e (by decide) (Nat.le_of_ble_eq_true rfl) [some (.ref (E.2.2.2 + o)), none, none, none, none] rfl (fun X C => ?_)
  unfold F_X7_findShelves
  refine g_aload_n (i := 0) C dX7_findShelves_0 rfl rfl ?_
  refine g_getI C f_X7_125 eo dX7_findShelves_1 ?_
  refine g_topi (fun x1 => ?_)
  refine g_istore_n (i := 1) C [some (.ref (E.2.2.2 + o)), some (.int x1), none, none, none] dX7_findShelves_4 rfl (by decide) rfl rfl ?_
  refine g_aload_n (i := 0) C dX7_findShelves_5 rfl rfl ?_
  refine g_iconst (v := 0) C dX7_findShelves_6 (by decide) ?_
  refine g_putI C f_X7_125 eo dX7_findShelves_7 (fun h2 => ?_)
  refine g_iconst (v := 0) C dX7_findShelves_10 (by decide) ?_
  refine g_istore_n (i := 2) C [some (.ref (E.2.2.2 + o)), some (.int x1), some (.int (0 : Int32)), none, none] dX7_findShelves_11 rfl (by decide) rfl rfl ?_
  refine G_F_X7_findShelves_L12 C _ o x1 (fun h12 => ?_) eo FU (0 : Int32) h2
  refine g_bipush (v := -9) C dX7_findShelves_38 (by decide) ?_
  refine g_istore_n (i := 2) C [some (.ref (E.2.2.2 + o)), some (.int x1), some (.int (-9 : Int32)), none, none] dX7_findShelves_40 rfl (by decide) rfl rfl ?_
  refine g_iconst (v := 0) C dX7_findShelves_41 (by decide) ?_
  refine g_istore_n (i := 3) C [some (.ref (E.2.2.2 + o)), some (.int x1), some (.int (-9 : Int32)), some (.int (0 : Int32)), none] dX7_findShelves_42 rfl (by decide) rfl rfl ?_
  refine G_F_X7_findShelves_L43 C _ o x1 (fun w40 h41 => ?_) eo FU (-9 : Int32) (0 : Int32) h12
  refine g_iconst (v := 0) C dX7_findShelves_121 (by decide) ?_
  refine g_istore_n (i := 3) C [some (.ref (E.2.2.2 + o)), some (.int x1), some (.int w40), some (.int (0 : Int32)), none] dX7_findShelves_122 rfl (by decide) rfl rfl ?_
  exact G_F_X7_findShelves_L123 C o x1 w40 eo FU (0 : Int32) h41
set_option maxHeartbeats 4000000 in
set_option maxRecDepth 100000 in
theorem G_F_X7_sparedBy_L8 {E : Ev} {X : Cx} (C : Ok E X cX7_sparedBy RX7 7 (some .int) 4) (k77 : Int32 → Int32 → Hp → Option (Int32 × Hp)) (q1 : Nat) (x2 : Int32) (x3 : Int32) (hk77 : ∀ (z3 : Int32) (z4 : Int32) (hh : Hp), G E shM X vi 77 [none, some (.int x2), some (.int x3), some (.int z3), some (.int z4), none, none] [] hh (k77 z3 z4 hh)) (eq1 : isO shM q1 7 = true) : ∀ (N : Nat) (x4 : Int32) (x5 : Int32) (x6 : Int32) (h7 : Hp), G E shM X vi 8 [some (.ref (E.2.2.2 + q1)), some (.int x2), some (.int x3), some (.int x4), some (.int x5), some (.int x6), none] [] h7 (F_X7_sparedBy_L8 k77 q1 x2 x3 N x4 x5 x6 h7) := by
  intro N
  induction N with
  | zero =>
    intro _ _ _ _
    exact g_none
  | succ N ih =>
    intro x4 x5 x6 h7
    rw [F_X7_sparedBy_L8]
    refine g_iload (i := 5) C dX7_sparedBy_8 rfl ?_
    refine g_aload_n (i := 0) C dX7_sparedBy_10 rfl rfl ?_
    refine g_getI C f_X7_83 eq1 dX7_sparedBy_11 ?_
    refine g_icmp_ge C 77 dX7_sparedBy_14 (by decide) (fun hc21 => ?_) (fun hc21 => ?_)
    · refine g_drop (i := 0) [none, some (.int x2), some (.int x3), some (.int x4), some (.int x5), some (.int x6), none] rfl ?_
      refine g_drop (i := 5) [none, some (.int x2), some (.int x3), some (.int x4), some (.int x5), none, none] rfl ?_
      exact hk77 x4 x5 h7
    · refine g_aload_n (i := 0) C dX7_sparedBy_17 rfl rfl ?_
      refine g_iload (i := 5) C dX7_sparedBy_18 rfl ?_
      refine g_cVi1 C cf_X7_170 cv_X7_heardBy eq1 (fun r h' e => c_X7_heardBy E q1 x6 eq1 h7 e) (by decide) (by decide) (Nat.le_of_ble_eq_true rfl) dX7_sparedBy_20 (fun r9 h8 _ => ?_)
      refine g_istore (i := 6) C [some (.ref (E.2.2.2 + q1)), some (.int x2), some (.int x3), some (.int x4), some (.int x5), some (.int x6), some (.int r9)] dX7_sparedBy_23 (by decide) rfl rfl ?_
      refine g_aload_n (i := 0) C dX7_sparedBy_25 rfl rfl ?_
      refine g_getA C f_X7_55 eq1 dX7_sparedBy_26 (fun q10 _ => ?_)
      refine g_iload (i := 5) C dX7_sparedBy_29 rfl ?_
      refine g_iald C dX7_sparedBy_31 ?_
      refine g_iload (i := 6) C dX7_sparedBy_32 rfl ?_
      refine g_cSi1 C cf_X7_179 aw_26 (fun r h' e => c_X7_size E r9 h8 e) (by decide) (by decide) (Nat.le_of_ble_eq_true rfl) dX7_sparedBy_34 (fun r12 h11 _ => ?_)
      refine g_icmp_le C 43 dX7_sparedBy_37 (by decide) (fun hc20 => ?_) (fun hc20 => ?_)
      · refine g_iload_n (i := 3) C dX7_sparedBy_43 rfl rfl ?_
        refine g_aload_n (i := 0) C dX7_sparedBy_44 rfl rfl ?_
        refine g_getA C f_X7_55 eq1 dX7_sparedBy_45 (fun q13 _ => ?_)
        refine g_iload (i := 5) C dX7_sparedBy_48 rfl ?_
        refine g_iald C dX7_sparedBy_50 ?_
        refine g_iadd C dX7_sparedBy_51 ?_
        refine g_topi (fun x14 => ?_)
        refine g_istore_n (i := 3) C [some (.ref (E.2.2.2 + q1)), some (.int x2), some (.int x3), some (.int x14), some (.int x5), some (.int x6), some (.int r9)] dX7_sparedBy_52 rfl (by decide) rfl rfl ?_
        refine g_iload (i := 4) C dX7_sparedBy_53 rfl ?_
        refine g_aload_n (i := 0) C dX7_sparedBy_55 rfl rfl ?_
        refine g_iload (i := 6) C dX7_sparedBy_56 rfl ?_
        refine g_aload_n (i := 0) C dX7_sparedBy_58 rfl rfl ?_
        refine g_getA C f_X7_55 eq1 dX7_sparedBy_59 (fun q15 _ => ?_)
        refine g_iload (i := 5) C dX7_sparedBy_62 rfl ?_
        refine g_iald C dX7_sparedBy_64 ?_
        refine g_cVi2 C cf_X7_182 cv_X7_wordsOf eq1 (fun r h' e => c_X7_wordsOf E q1 r9 (h11.1 q15 (x6).toNatClampNeg) eq1 h11 e) (by decide) (by decide) (Nat.le_of_ble_eq_true rfl) dX7_sparedBy_65 (fun r17 h16 _ => ?_)
        refine g_ior C dX7_sparedBy_68 ?_
        refine g_topi (fun x18 => ?_)
        refine g_istore (i := 4) C [some (.ref (E.2.2.2 + q1)), some (.int x2), some (.int x3), some (.int x14), some (.int x18), some (.int x6), some (.int r9)] dX7_sparedBy_69 (by decide) rfl rfl ?_
        refine g_iinc (i := 5) (w := 1) C (fun yy => [some (.ref (E.2.2.2 + q1)), some (.int x2), some (.int x3), some (.int x14), some (.int x18), some (.int yy), some (.int r9)]) dX7_sparedBy_71 rfl (by decide) rfl (by decide) rfl (fun _ => rfl) (fun x19 => ?_)
        refine g_goto C 8 dX7_sparedBy_74 (by decide) ?_
        refine g_drop (i := 6) [some (.ref (E.2.2.2 + q1)), some (.int x2), some (.int x3), some (.int x14), some (.int x18), some (.int x19), none] rfl ?_
        exact ih x14 x18 x19 h16
      · refine g_bipush (v := -9) C dX7_sparedBy_40 (by decide) ?_
        exact g_ireti C dX7_sparedBy_42
set_option maxHeartbeats 4000000 in
set_option maxRecDepth 100000 in
theorem c_X7_sparedBy (E : Ev) (o : Nat) (p0 : Int32) (p1 : Int32) (eo : isO shM o 7 = true) (h : Hp) {r : Int32} {h' : Hp} (e : F_X7_sparedBy o p0 p1 h = some (r, h')) : Ctr E shM yX7_sparedBy cX7_sparedBy 7 (some .int) 4 [.ref (E.2.2.2 + o), .int p0, .int p1] h (vi r) h' := by
  refine Ctr.ofG (val := vi) e (by decide) (Nat.le_of_ble_eq_true rfl) [some (.ref (E.2.2.2 + o)), some (.int p0), some (.int p1), none, none, none, none] rfl (fun X C => ?_)
  unfold F_X7_sparedBy
  refine g_iconst (v := 0) C dX7_sparedBy_0 (by decide) ?_
  refine g_istore_n (i := 3) C [some (.ref (E.2.2.2 + o)), some (.int p0), some (.int p1), some (.int (0 : Int32)), none, none, none] dX7_sparedBy_1 rfl (by decide) rfl rfl ?_
  refine g_iconst (v := 0) C dX7_sparedBy_2 (by decide) ?_
  refine g_istore (i := 4) C [some (.ref (E.2.2.2 + o)), some (.int p0), some (.int p1), some (.int (0 : Int32)), some (.int (0 : Int32)), none, none] dX7_sparedBy_3 (by decide) rfl rfl ?_
  refine g_iconst (v := 0) C dX7_sparedBy_5 (by decide) ?_
  refine g_istore (i := 5) C [some (.ref (E.2.2.2 + o)), some (.int p0), some (.int p1), some (.int (0 : Int32)), some (.int (0 : Int32)), some (.int (0 : Int32)), none] dX7_sparedBy_6 (by decide) rfl rfl ?_
  refine G_F_X7_sparedBy_L8 C _ o p0 p1 (fun w22 w23 h24 => ?_) eo FU (0 : Int32) (0 : Int32) (0 : Int32) h
  refine g_iload_n (i := 1) C dX7_sparedBy_77 rfl rfl ?_
  refine g_iload (i := 4) C dX7_sparedBy_78 rfl ?_
  refine g_iconst (v := -1) C dX7_sparedBy_80 (by decide) ?_
  refine g_ixor C dX7_sparedBy_81 ?_
  refine g_iand C dX7_sparedBy_82 ?_
  refine g_if_ne C 97 dX7_sparedBy_83 (by decide) (fun hc26 => ?_) (fun hc26 => ?_)
  · refine g_iload_n (i := 2) C dX7_sparedBy_86 rfl rfl ?_
    refine g_iload (i := 4) C dX7_sparedBy_87 rfl ?_
    refine g_iand C dX7_sparedBy_89 ?_
    refine g_if_ne C 97 dX7_sparedBy_90 (by decide) (fun hc25 => ?_) (fun hc25 => ?_)
    · refine g_iload_n (i := 3) C dX7_sparedBy_93 rfl rfl ?_
      refine g_goto C 99 dX7_sparedBy_94 (by decide) ?_
      exact g_ireti C dX7_sparedBy_99
    · refine g_bipush (v := -9) C dX7_sparedBy_97 (by decide) ?_
      exact g_ireti C dX7_sparedBy_99
  · refine g_bipush (v := -9) C dX7_sparedBy_97 (by decide) ?_
    exact g_ireti C dX7_sparedBy_99
set_option maxHeartbeats 4000000 in
set_option maxRecDepth 100000 in
theorem G_F_X7_findSpare_J52 {E : Ev} {X : Cx} (C : Ok E X cX7_findSpare RX7 6 (some .int) 5) (k6 : Int32 → Int32 → Hp → Option (Int32 × Hp)) (q1 : Nat) (x2 : Int32) (x3 : Int32) (x16 : Int32) (x17 : Int32) (hk6 : ∀ (z3 : Int32) (z4 : Int32) (hh : Hp), G E shM X vi 6 [some (.ref (E.2.2.2 + q1)), some (.int x2), some (.int x3), some (.int z3), some (.int z4), none] [] hh (k6 z3 z4 hh)) (eq1 : isO shM q1 7 = true) (h18 : Hp) : G E shM X vi 52 [some (.ref (E.2.2.2 + q1)), some (.int x2), some (.int x3), none, some (.int x16), some (.int x17)] [] h18 (F_X7_findSpare_J52 k6 q1 x2 x3 x16 x17 h18) := by
  unfold F_X7_findSpare_J52
  refine g_iload (i := 5) C dX7_findSpare_52 rfl ?_
  refine g_istore_n (i := 3) C [some (.ref (E.2.2.2 + q1)), some (.int x2), some (.int x3), some (.int x17), some (.int x16), some (.int x17)] dX7_findSpare_54 rfl (by decide) rfl rfl ?_
  refine g_aload_n (i := 0) C dX7_findSpare_55 rfl rfl ?_
  refine g_cVv0 C cf_X7_195 cv_X7_keepRow eq1 (fun r h' e => c_X7_keepRow E q1 eq1 h18 e) (by decide) (by decide) (Nat.le_of_ble_eq_true rfl) dX7_findSpare_56 (fun _ h19 _ => ?_)
  refine g_iinc (i := 4) (w := 1) C (fun yy => [some (.ref (E.2.2.2 + q1)), some (.int x2), some (.int x3), some (.int x17), some (.int yy), some (.int x17)]) dX7_findSpare_59 rfl (by decide) rfl (by decide) rfl (fun _ => rfl) (fun x20 => ?_)
  refine g_goto C 6 dX7_findSpare_62 (by decide) ?_
  refine g_drop (i := 5) [some (.ref (E.2.2.2 + q1)), some (.int x2), some (.int x3), some (.int x17), some (.int x20), none] rfl ?_
  exact hk6 x17 x20 h19
set_option maxHeartbeats 4000000 in
set_option maxRecDepth 100000 in
theorem G_F_X7_findSpare_L6 {E : Ev} {X : Cx} (C : Ok E X cX7_findSpare RX7 6 (some .int) 5) (q1 : Nat) (x2 : Int32) (x3 : Int32) (eq1 : isO shM q1 7 = true) : ∀ (N : Nat) (x4 : Int32) (x5 : Int32) (h6 : Hp), G E shM X vi 6 [some (.ref (E.2.2.2 + q1)), some (.int x2), some (.int x3), some (.int x4), some (.int x5), none] [] h6 (F_X7_findSpare_L6 q1 x2 x3 N x4 x5 h6) := by
  intro N
  induction N with
  | zero =>
    intro _ _ _
    exact g_none
  | succ N ih =>
    intro x4 x5 h6
    rw [F_X7_findSpare_L6]
    refine g_iload (i := 4) C dX7_findSpare_6 rfl ?_
    refine g_aload_n (i := 0) C dX7_findSpare_8 rfl rfl ?_
    refine g_bipush (v := 9) C dX7_findSpare_9 (by decide) ?_
    refine g_cVi1 C cf_X7_185 cv_X7_rowsOf eq1 (fun r h' e => c_X7_rowsOf E q1 (9 : Int32) eq1 h6 e) (by decide) (by decide) (Nat.le_of_ble_eq_true rfl) dX7_findSpare_11 (fun r8 h7 _ => ?_)
    refine g_icmp_ge C 65 dX7_findSpare_14 (by decide) (fun hc25 => ?_) (fun hc25 => ?_)
    · refine g_iload_n (i := 3) C dX7_findSpare_65 rfl rfl ?_
      exact g_ireti C dX7_findSpare_66
    · refine g_aload_n (i := 0) C dX7_findSpare_17 rfl rfl ?_
      refine g_iload (i := 4) C dX7_findSpare_18 rfl ?_
      refine g_bipush (v := 9) C dX7_findSpare_20 (by decide) ?_
      refine g_cVv2 C cf_X7_188 cv_X7_layRow eq1 (fun r h' e => c_X7_layRow E q1 x5 (9 : Int32) eq1 h7 e) (by decide) (by decide) (Nat.le_of_ble_eq_true rfl) dX7_findSpare_22 (fun _ h9 _ => ?_)
      refine g_aload_n (i := 0) C dX7_findSpare_25 rfl rfl ?_
      refine g_iload_n (i := 1) C dX7_findSpare_26 rfl rfl ?_
      refine g_iload_n (i := 2) C dX7_findSpare_27 rfl rfl ?_
      refine g_cVi2 C cf_X7_192 cv_X7_sparedBy eq1 (fun r h' e => c_X7_sparedBy E q1 x2 x3 eq1 h9 e) (by decide) (by decide) (Nat.le_of_ble_eq_true rfl) dX7_findSpare_28 (fun r11 h10 _ => ?_)
      refine g_istore (i := 5) C [some (.ref (E.2.2.2 + q1)), some (.int x2), some (.int x3), some (.int x4), some (.int x5), some (.int r11)] dX7_findSpare_31 (by decide) rfl rfl ?_
      refine g_iload (i := 5) C dX7_findSpare_33 rfl ?_
      refine g_bipush (v := -9) C dX7_findSpare_35 (by decide) ?_
      refine g_icmp_eq C 59 dX7_findSpare_37 (by decide) (fun hc24 => ?_) (fun hc24 => ?_)
      · refine g_iinc (i := 4) (w := 1) C (fun yy => [some (.ref (E.2.2.2 + q1)), some (.int x2), some (.int x3), some (.int x4), some (.int yy), some (.int r11)]) dX7_findSpare_59 rfl (by decide) rfl (by decide) rfl (fun _ => rfl) (fun x12 => ?_)
        refine g_goto C 6 dX7_findSpare_62 (by decide) ?_
        refine g_drop (i := 5) [some (.ref (E.2.2.2 + q1)), some (.int x2), some (.int x3), some (.int x4), some (.int x12), none] rfl ?_
        exact ih x4 x12 h10
      · refine g_iload_n (i := 3) C dX7_findSpare_40 rfl rfl ?_
        refine g_bipush (v := -9) C dX7_findSpare_41 (by decide) ?_
        refine g_icmp_eq C 52 dX7_findSpare_43 (by decide) (fun hc23 => ?_) (fun hc23 => ?_)
        · refine g_drop (i := 3) [some (.ref (E.2.2.2 + q1)), some (.int x2), some (.int x3), none, some (.int x5), some (.int r11)] rfl ?_
          exact G_F_X7_findSpare_J52 C (F_X7_findSpare_L6 q1 x2 x3 N) q1 x2 x3 x5 r11 (ih) eq1 h10
        · refine g_iload (i := 5) C dX7_findSpare_46 rfl ?_
          refine g_iload_n (i := 3) C dX7_findSpare_48 rfl rfl ?_
          refine g_icmp_ge C 59 dX7_findSpare_49 (by decide) (fun hc22 => ?_) (fun hc22 => ?_)
          · refine g_iinc (i := 4) (w := 1) C (fun yy => [some (.ref (E.2.2.2 + q1)), some (.int x2), some (.int x3), some (.int x4), some (.int yy), some (.int r11)]) dX7_findSpare_59 rfl (by decide) rfl (by decide) rfl (fun _ => rfl) (fun x21 => ?_)
            refine g_goto C 6 dX7_findSpare_62 (by decide) ?_
            refine g_drop (i := 5) [some (.ref (E.2.2.2 + q1)), some (.int x2), some (.int x3), some (.int x4), some (.int x21), none] rfl ?_
            exact ih x4 x21 h10
          · refine g_drop (i := 3) [some (.ref (E.2.2.2 + q1)), some (.int x2), some (.int x3), none, some (.int x5), some (.int r11)] rfl ?_
            exact G_F_X7_findSpare_J52 C (F_X7_findSpare_L6 q1 x2 x3 N) q1 x2 x3 x5 r11 (ih) eq1 h10
set_option maxHeartbeats 4000000 in
set_option maxRecDepth 100000 in
theorem c_X7_findSpare (E : Ev) (o : Nat) (p0 : Int32) (p1 : Int32) (eo : isO shM o 7 = true) (h : Hp) {r : Int32} {h' : Hp} (e : F_X7_findSpare o p0 p1 h = some (r, h')) : Ctr E shM yX7_findSpare cX7_findSpare 6 (some .int) 5 [.ref (E.2.2.2 + o), .int p0, .int p1] h (vi r) h' := by
  refine Ctr.ofG (val := vi) e (by decide) (Nat.le_of_ble_eq_true rfl) [some (.ref (E.2.2.2 + o)), some (.int p0), some (.int p1), none, none, none] rfl (fun X C => ?_)
  unfold F_X7_findSpare
  refine g_bipush (v := -9) C dX7_findSpare_0 (by decide) ?_
  refine g_istore_n (i := 3) C [some (.ref (E.2.2.2 + o)), some (.int p0), some (.int p1), some (.int (-9 : Int32)), none, none] dX7_findSpare_2 rfl (by decide) rfl rfl ?_
  refine g_iconst (v := 0) C dX7_findSpare_3 (by decide) ?_
  refine g_istore (i := 4) C [some (.ref (E.2.2.2 + o)), some (.int p0), some (.int p1), some (.int (-9 : Int32)), some (.int (0 : Int32)), none] dX7_findSpare_4 (by decide) rfl rfl ?_
  exact G_F_X7_findSpare_L6 C o p0 p1 eo FU (-9 : Int32) (0 : Int32) h
set_option maxHeartbeats 4000000 in
set_option maxRecDepth 100000 in
theorem c_X7_heard (E : Ev) (o : Nat) (p0 : Int32) (eo : isO shM o 7 = true) (h : Hp) {r : Int32} {h' : Hp} (e : F_X7_heard o p0 h = some (r, h')) : Ctr E shM yX7_heard cX7_heard 2 (some .int) 4 [.ref (E.2.2.2 + o), .int p0] h (vi r) h' := by
  refine Ctr.ofG (val := vi) e (by decide) (Nat.le_of_ble_eq_true rfl) [some (.ref (E.2.2.2 + o)), some (.int p0)] rfl (fun X C => ?_)
  unfold F_X7_heard
  refine g_aload_n (i := 0) C dX7_heard_0 rfl rfl ?_
  refine g_iload_n (i := 1) C dX7_heard_1 rfl rfl ?_
  refine g_cVi1 C cf_X7_145 cv_X7_isCheese eo (fun r h' e => c_X7_isCheese E o p0 eo h e) (by decide) (by decide) (Nat.le_of_ble_eq_true rfl) dX7_heard_2 (fun r2 h1 _ => ?_)
  refine g_if_eq C 16 dX7_heard_5 (by decide) (fun hc5 => ?_) (fun hc5 => ?_)
  · refine g_iconst (v := -1) C dX7_heard_16 (by decide) ?_
    exact g_ireti C dX7_heard_17
  · refine g_aload_n (i := 0) C dX7_heard_8 rfl rfl ?_
    refine g_iload_n (i := 1) C dX7_heard_9 rfl rfl ?_
    refine g_cVi1 C cf_X7_170 cv_X7_heardBy eo (fun r h' e => c_X7_heardBy E o p0 eo h1 e) (by decide) (by decide) (Nat.le_of_ble_eq_true rfl) dX7_heard_10 (fun r4 h3 _ => ?_)
    refine g_goto C 17 dX7_heard_13 (by decide) ?_
    exact g_ireti C dX7_heard_17
set_option maxHeartbeats 4000000 in
set_option maxRecDepth 100000 in
theorem G_F_X7_inLeastTerms_L6 {E : Ev} {X : Cx} (C : Ok E X cX7_inLeastTerms RX7 11 (some .long) 1) (k31 : Int64 → Hp → Option (Int64 × Hp)) (x1 : Int64) (x2 : Int64) (x3 : Int32) (hk31 : ∀ (z5 : Int64) (hh : Hp), G E shM X vl 31 [some (.long x1), none, some (.long x2), none, some (.int x3), some (.long z5), none, none, none, none, none] [] hh (k31 z5 hh)) : ∀ (N : Nat) (x4 : Int64) (x5 : Int64) (h6 : Hp), G E shM X vl 6 [some (.long x1), none, some (.long x2), none, some (.int x3), some (.long x4), none, some (.long x5), none, none, none] [] h6 (F_X7_inLeastTerms_L6 k31 x1 x2 x3 N x4 x5 h6) := by
  intro N
  induction N with
  | zero =>
    intro _ _ _
    exact g_none
  | succ N ih =>
    intro x4 x5 h6
    rw [F_X7_inLeastTerms_L6]
    refine g_lload (i := 7) C dX7_inLeastTerms_6 rfl ?_
    refine g_lconst (v := 0) C dX7_inLeastTerms_8 (by decide) ?_
    refine g_lcmp C dX7_inLeastTerms_9 ?_
    refine g_if_eq C 31 dX7_inLeastTerms_10 (by decide) (fun hc9 => ?_) (fun hc9 => ?_)
    · refine g_drop (i := 7) [some (.long x1), none, some (.long x2), none, some (.int x3), some (.long x4), none, none, none, none, none] rfl ?_
      exact hk31 x4 h6
    · refine g_lload (i := 5) C dX7_inLeastTerms_13 rfl ?_
      refine g_lload (i := 7) C dX7_inLeastTerms_15 rfl ?_
      refine g_ck (fun hz8 => ?_)
      refine g_lrem C dX7_inLeastTerms_17 (by simpa using hz8) ?_
      refine g_topl (fun x7 => ?_)
      refine g_lstore (i := 9) C [some (.long x1), none, some (.long x2), none, some (.int x3), some (.long x4), none, some (.long x5), none, some (.long x7), none] dX7_inLeastTerms_18 (by decide) rfl rfl ?_
      refine g_lload (i := 7) C dX7_inLeastTerms_20 rfl ?_
      refine g_lstore (i := 5) C [some (.long x1), none, some (.long x2), none, some (.int x3), some (.long x5), none, some (.long x5), none, some (.long x7), none] dX7_inLeastTerms_22 (by decide) rfl rfl ?_
      refine g_lload (i := 9) C dX7_inLeastTerms_24 rfl ?_
      refine g_lstore (i := 7) C [some (.long x1), none, some (.long x2), none, some (.int x3), some (.long x5), none, some (.long x7), none, some (.long x7), none] dX7_inLeastTerms_26 (by decide) rfl rfl ?_
      refine g_goto C 6 dX7_inLeastTerms_28 (by decide) ?_
      refine g_drop (i := 9) [some (.long x1), none, some (.long x2), none, some (.int x3), some (.long x5), none, some (.long x7), none, none, none] rfl ?_
      exact ih x5 x7 h6
set_option maxHeartbeats 4000000 in
set_option maxRecDepth 100000 in
theorem c_X7_inLeastTerms (E : Ev) (p0 : Int64) (p1 : Int64) (p2 : Int32) (h : Hp) {r : Int64} {h' : Hp} (e : F_X7_inLeastTerms p0 p1 p2 h = some (r, h')) : Ctr E shM yX7_inLeastTerms cX7_inLeastTerms 11 (some .long) 1 [.long p0, .long p1, .int p2] h (vl r) h' := by
  refine Ctr.ofG (val := vl) e (by decide) (Nat.le_of_ble_eq_true rfl) [some (.long p0), none, some (.long p1), none, some (.int p2), none, none, none, none, none, none] rfl (fun X C => ?_)
  unfold F_X7_inLeastTerms
  refine g_lload_n (i := 0) C dX7_inLeastTerms_0 rfl rfl ?_
  refine g_lstore (i := 5) C [some (.long p0), none, some (.long p1), none, some (.int p2), some (.long p0), none, none, none, none, none] dX7_inLeastTerms_1 (by decide) rfl rfl ?_
  refine g_lload_n (i := 2) C dX7_inLeastTerms_3 rfl rfl ?_
  refine g_lstore (i := 7) C [some (.long p0), none, some (.long p1), none, some (.int p2), some (.long p0), none, some (.long p1), none, none, none] dX7_inLeastTerms_4 (by decide) rfl rfl ?_
  refine G_F_X7_inLeastTerms_L6 C _ p0 p1 p2 (fun w10 h11 => ?_) FU p0 p1 h
  refine g_iload (i := 4) C dX7_inLeastTerms_31 rfl ?_
  refine g_if_ne C 43 dX7_inLeastTerms_33 (by decide) (fun hc14 => ?_) (fun hc14 => ?_)
  · refine g_lload_n (i := 0) C dX7_inLeastTerms_36 rfl rfl ?_
    refine g_lload (i := 5) C dX7_inLeastTerms_37 rfl ?_
    refine g_ck (fun hz13 => ?_)
    refine g_ldiv C dX7_inLeastTerms_39 (by simpa using hz13) ?_
    refine g_goto C 47 dX7_inLeastTerms_40 (by decide) ?_
    exact g_lret C dX7_inLeastTerms_47
  · refine g_lload_n (i := 2) C dX7_inLeastTerms_43 rfl rfl ?_
    refine g_lload (i := 5) C dX7_inLeastTerms_44 rfl ?_
    refine g_ck (fun hz12 => ?_)
    refine g_ldiv C dX7_inLeastTerms_46 (by simpa using hz12) ?_
    exact g_lret C dX7_inLeastTerms_47
set_option maxHeartbeats 4000000 in
set_option maxRecDepth 100000 in
theorem c_X7_isCellar (E : Ev) (o : Nat) (p0 : Int32) (eo : isO shM o 7 = true) (h : Hp) {r : Int32} {h' : Hp} (e : F_X7_isCellar o p0 h = some (r, h')) : Ctr E shM yX7_isCellar cX7_isCellar 2 (some .boolean) 1 [.ref (E.2.2.2 + o), .int p0] h (vi r) h' := by
  refine Ctr.ofG (val := vi) e (by decide) (Nat.le_of_ble_eq_true rfl) [some (.ref (E.2.2.2 + o)), some (.int p0)] rfl (fun X C => ?_)
  unfold F_X7_isCellar
  refine g_iload_n (i := 1) C dX7_isCellar_0 rfl rfl ?_
  refine g_if_lt C 16 dX7_isCellar_1 (by decide) (fun hc2 => ?_) (fun hc2 => ?_)
  · refine g_iconst (v := 0) C dX7_isCellar_16 (by decide) ?_
    exact g_iretz C rfl dX7_isCellar_17
  · refine g_iload_n (i := 1) C dX7_isCellar_4 rfl rfl ?_
    refine g_aload_n (i := 0) C dX7_isCellar_5 rfl rfl ?_
    refine g_getI C f_X7_86 eo dX7_isCellar_6 ?_
    refine g_icmp_ge C 16 dX7_isCellar_9 (by decide) (fun hc1 => ?_) (fun hc1 => ?_)
    · refine g_iconst (v := 0) C dX7_isCellar_16 (by decide) ?_
      exact g_iretz C rfl dX7_isCellar_17
    · refine g_iconst (v := 1) C dX7_isCellar_12 (by decide) ?_
      refine g_goto C 17 dX7_isCellar_13 (by decide) ?_
      exact g_iretz C rfl dX7_isCellar_17
set_option maxHeartbeats 4000000 in
set_option maxRecDepth 100000 in
theorem c_X7_isDay (E : Ev) (p0 : Int32) (h : Hp) {r : Int32} {h' : Hp} (e : F_X7_isDay p0 h = some (r, h')) : Ctr E shM yX7_isDay cX7_isDay 1 (some .boolean) 2 [.int p0] h (vi r) h' := by
  refine Ctr.ofG (val := vi) e (by decide) (Nat.le_of_ble_eq_true rfl) [some (.int p0)] rfl (fun X C => ?_)
  unfold F_X7_isDay
  refine g_iload_n (i := 0) C dX7_isDay_0 rfl rfl ?_
  refine g_iconst (v := 0) C dX7_isDay_1 (by decide) ?_
  refine g_bipush (v := 7) C dX7_isDay_2 (by decide) ?_
  refine g_cSi3 C cf_X7_79 aw_27 (fun r h' e => c_X7_within E p0 (0 : Int32) (7 : Int32) h e) (by decide) (by decide) (Nat.le_of_ble_eq_true rfl) dX7_isDay_4 (fun r2 h1 _ => ?_)
  exact g_iretb C dX7_isDay_7
set_option maxHeartbeats 4000000 in
set_option maxRecDepth 100000 in
theorem c_X7_isTalk (E : Ev) (o : Nat) (p0 : Int32) (eo : isO shM o 7 = true) (h : Hp) {r : Int32} {h' : Hp} (e : F_X7_isTalk o p0 h = some (r, h')) : Ctr E shM yX7_isTalk cX7_isTalk 2 (some .boolean) 1 [.ref (E.2.2.2 + o), .int p0] h (vi r) h' := by
  refine Ctr.ofG (val := vi) e (by decide) (Nat.le_of_ble_eq_true rfl) [some (.ref (E.2.2.2 + o)), some (.int p0)] rfl (fun X C => ?_)
  unfold F_X7_isTalk
  refine g_iload_n (i := 1) C dX7_isTalk_0 rfl rfl ?_
  refine g_if_lt C 16 dX7_isTalk_1 (by decide) (fun hc2 => ?_) (fun hc2 => ?_)
  · refine g_iconst (v := 0) C dX7_isTalk_16 (by decide) ?_
    exact g_iretz C rfl dX7_isTalk_17
  · refine g_iload_n (i := 1) C dX7_isTalk_4 rfl rfl ?_
    refine g_aload_n (i := 0) C dX7_isTalk_5 rfl rfl ?_
    refine g_getI C f_X7_89 eo dX7_isTalk_6 ?_
    refine g_icmp_ge C 16 dX7_isTalk_9 (by decide) (fun hc1 => ?_) (fun hc1 => ?_)
    · refine g_iconst (v := 0) C dX7_isTalk_16 (by decide) ?_
      exact g_iretz C rfl dX7_isTalk_17
    · refine g_iconst (v := 1) C dX7_isTalk_12 (by decide) ?_
      refine g_goto C 17 dX7_isTalk_13 (by decide) ?_
      exact g_iretz C rfl dX7_isTalk_17
set_option maxHeartbeats 4000000 in
set_option maxRecDepth 100000 in
theorem G_F_X7_kinds_L22 {E : Ev} {X : Cx} (C : Ok E X cX7_kinds RX7 5 (some .int) 5) (q5 : Nat) (x6 : Int32) (x7 : Int32) (eq5 : isO shM q5 7 = true) : ∀ (N : Nat) (x8 : Int32) (x9 : Int32) (h10 : Hp), G E shM X vi 22 [some (.ref (E.2.2.2 + q5)), some (.int x6), some (.int x7), some (.int x8), some (.int x9)] [] h10 (F_X7_kinds_L22 q5 x6 x7 N x8 x9 h10) := by
  intro N
  induction N with
  | zero =>
    intro _ _ _
    exact g_none
  | succ N ih =>
    intro x8 x9 h10
    rw [F_X7_kinds_L22]
    refine g_iload (i := 4) C dX7_kinds_22 rfl ?_
    refine g_iconst (v := 3) C dX7_kinds_24 (by decide) ?_
    refine g_icmp_ge C 60 dX7_kinds_25 (by decide) (fun hc22 => ?_) (fun hc22 => ?_)
    · refine g_aload_n (i := 0) C dX7_kinds_60 rfl rfl ?_
      refine g_getA C f_X7_19 eq5 dX7_kinds_61 (fun q11 _ => ?_)
      refine g_iload_n (i := 1) C dX7_kinds_64 rfl rfl ?_
      refine g_iload_n (i := 2) C dX7_kinds_65 rfl rfl ?_
      refine g_iast C dX7_kinds_66 (fun h12 => ?_)
      refine g_iload_n (i := 3) C dX7_kinds_67 rfl rfl ?_
      exact g_ireti C dX7_kinds_68
    · refine g_aload_n (i := 0) C dX7_kinds_28 rfl rfl ?_
      refine g_getA C f_X7_19 eq5 dX7_kinds_29 (fun q13 _ => ?_)
      refine g_iload_n (i := 1) C dX7_kinds_32 rfl rfl ?_
      refine g_iload (i := 4) C dX7_kinds_33 rfl ?_
      refine g_iast C dX7_kinds_35 (fun h14 => ?_)
      refine g_iload_n (i := 3) C dX7_kinds_36 rfl rfl ?_
      refine g_aload_n (i := 0) C dX7_kinds_37 rfl rfl ?_
      refine g_cVi0 C cf_X7_208 cv_X7_areSo eq5 (fun r h' e => c_X7_areSo E q5 eq5 h14 e) (by decide) (by decide) (Nat.le_of_ble_eq_true rfl) dX7_kinds_38 (fun r16 h15 _ => ?_)
      refine g_if_eq C 51 dX7_kinds_41 (by decide) (fun hc21 => ?_) (fun hc21 => ?_)
      · refine g_iconst (v := 0) C dX7_kinds_51 (by decide) ?_
        refine g_ior C dX7_kinds_52 ?_
        refine g_topi (fun x17 => ?_)
        refine g_istore_n (i := 3) C [some (.ref (E.2.2.2 + q5)), some (.int x6), some (.int x7), some (.int x17), some (.int x9)] dX7_kinds_53 rfl (by decide) rfl rfl ?_
        refine g_iinc (i := 4) (w := 1) C (fun yy => [some (.ref (E.2.2.2 + q5)), some (.int x6), some (.int x7), some (.int x17), some (.int yy)]) dX7_kinds_54 rfl (by decide) rfl (by decide) rfl (fun _ => rfl) (fun x18 => ?_)
        refine g_goto C 22 dX7_kinds_57 (by decide) ?_
        exact ih x17 x18 h15
      · refine g_iconst (v := 1) C dX7_kinds_44 (by decide) ?_
        refine g_iload (i := 4) C dX7_kinds_45 rfl ?_
        refine g_ishl C dX7_kinds_47 ?_
        refine g_goto C 52 dX7_kinds_48 (by decide) ?_
        refine g_ior C dX7_kinds_52 ?_
        refine g_topi (fun x19 => ?_)
        refine g_istore_n (i := 3) C [some (.ref (E.2.2.2 + q5)), some (.int x6), some (.int x7), some (.int x19), some (.int x9)] dX7_kinds_53 rfl (by decide) rfl rfl ?_
        refine g_iinc (i := 4) (w := 1) C (fun yy => [some (.ref (E.2.2.2 + q5)), some (.int x6), some (.int x7), some (.int x19), some (.int yy)]) dX7_kinds_54 rfl (by decide) rfl (by decide) rfl (fun _ => rfl) (fun x20 => ?_)
        refine g_goto C 22 dX7_kinds_57 (by decide) ?_
        exact ih x19 x20 h15
set_option maxHeartbeats 4000000 in
set_option maxRecDepth 100000 in
theorem c_X7_kinds (E : Ev) (o : Nat) (p0 : Int32) (eo : isO shM o 7 = true) (h : Hp) {r : Int32} {h' : Hp} (e : F_X7_kinds o p0 h = some (r, h')) : Ctr E shM yX7_kinds cX7_kinds 5 (some .int) 5 [.ref (E.2.2.2 + o), .int p0] h (vi r) h' := by
  refine Ctr.ofG (val := vi) e (by decide) (Nat.le_of_ble_eq_true rfl) [some (.ref (E.2.2.2 + o)), some (.int p0), none, none, none] rfl (fun X C => ?_)
  unfold F_X7_kinds
  refine g_aload_n (i := 0) C dX7_kinds_0 rfl rfl ?_
  refine g_iload_n (i := 1) C dX7_kinds_1 rfl rfl ?_
  refine g_cVi1 C cf_X7_145 cv_X7_isCheese eo (fun r h' e => c_X7_isCheese E o p0 eo h e) (by decide) (by decide) (Nat.le_of_ble_eq_true rfl) dX7_kinds_2 (fun r2 h1 _ => ?_)
  refine g_if_ne C 10 dX7_kinds_5 (by decide) (fun hc23 => ?_) (fun hc23 => ?_)
  · refine g_iconst (v := -1) C dX7_kinds_8 (by decide) ?_
    exact g_ireti C dX7_kinds_9
  · refine g_aload_n (i := 0) C dX7_kinds_10 rfl rfl ?_
    refine g_getA C f_X7_19 eo dX7_kinds_11 (fun q3 _ => ?_)
    refine g_iload_n (i := 1) C dX7_kinds_14 rfl rfl ?_
    refine g_iald C dX7_kinds_15 ?_
    refine g_topi (fun x4 => ?_)
    refine g_istore_n (i := 2) C [some (.ref (E.2.2.2 + o)), some (.int p0), some (.int x4), none, none] dX7_kinds_16 rfl (by decide) rfl rfl ?_
    refine g_iconst (v := 0) C dX7_kinds_17 (by decide) ?_
    refine g_istore_n (i := 3) C [some (.ref (E.2.2.2 + o)), some (.int p0), some (.int x4), some (.int (0 : Int32)), none] dX7_kinds_18 rfl (by decide) rfl rfl ?_
    refine g_iconst (v := 0) C dX7_kinds_19 (by decide) ?_
    refine g_istore (i := 4) C [some (.ref (E.2.2.2 + o)), some (.int p0), some (.int x4), some (.int (0 : Int32)), some (.int (0 : Int32))] dX7_kinds_20 (by decide) rfl rfl ?_
    exact G_F_X7_kinds_L22 C o p0 x4 eo FU (0 : Int32) (0 : Int32) h1
set_option maxHeartbeats 4000000 in
set_option maxRecDepth 100000 in
theorem G_F_X7_lay_L22 {E : Ev} {X : Cx} (C : Ok E X cX7_lay RX7 5 (some .int) 5) (q5 : Nat) (x6 : Int32) (x7 : Int32) (eq5 : isO shM q5 7 = true) : ∀ (N : Nat) (x8 : Int32) (x9 : Int32) (h10 : Hp), G E shM X vi 22 [some (.ref (E.2.2.2 + q5)), some (.int x6), some (.int x7), some (.int x8), some (.int x9)] [] h10 (F_X7_lay_L22 q5 x6 x7 N x8 x9 h10) := by
  intro N
  induction N with
  | zero =>
    intro _ _ _
    exact g_none
  | succ N ih =>
    intro x8 x9 h10
    rw [F_X7_lay_L22]
    refine g_iload (i := 4) C dX7_lay_22 rfl ?_
    refine g_aload_n (i := 0) C dX7_lay_24 rfl rfl ?_
    refine g_getI C f_X7_86 eq5 dX7_lay_25 ?_
    refine g_icmp_ge C 63 dX7_lay_28 (by decide) (fun hc22 => ?_) (fun hc22 => ?_)
    · refine g_aload_n (i := 0) C dX7_lay_63 rfl rfl ?_
      refine g_getA C f_X7_22 eq5 dX7_lay_64 (fun q11 _ => ?_)
      refine g_iload_n (i := 1) C dX7_lay_67 rfl rfl ?_
      refine g_iload_n (i := 2) C dX7_lay_68 rfl rfl ?_
      refine g_iast C dX7_lay_69 (fun h12 => ?_)
      refine g_iload_n (i := 3) C dX7_lay_70 rfl rfl ?_
      exact g_ireti C dX7_lay_71
    · refine g_aload_n (i := 0) C dX7_lay_31 rfl rfl ?_
      refine g_getA C f_X7_22 eq5 dX7_lay_32 (fun q13 _ => ?_)
      refine g_iload_n (i := 1) C dX7_lay_35 rfl rfl ?_
      refine g_iload (i := 4) C dX7_lay_36 rfl ?_
      refine g_iast C dX7_lay_38 (fun h14 => ?_)
      refine g_iload_n (i := 3) C dX7_lay_39 rfl rfl ?_
      refine g_aload_n (i := 0) C dX7_lay_40 rfl rfl ?_
      refine g_cVi0 C cf_X7_208 cv_X7_areSo eq5 (fun r h' e => c_X7_areSo E q5 eq5 h14 e) (by decide) (by decide) (Nat.le_of_ble_eq_true rfl) dX7_lay_41 (fun r16 h15 _ => ?_)
      refine g_if_eq C 54 dX7_lay_44 (by decide) (fun hc21 => ?_) (fun hc21 => ?_)
      · refine g_iconst (v := 0) C dX7_lay_54 (by decide) ?_
        refine g_ior C dX7_lay_55 ?_
        refine g_topi (fun x17 => ?_)
        refine g_istore_n (i := 3) C [some (.ref (E.2.2.2 + q5)), some (.int x6), some (.int x7), some (.int x17), some (.int x9)] dX7_lay_56 rfl (by decide) rfl rfl ?_
        refine g_iinc (i := 4) (w := 1) C (fun yy => [some (.ref (E.2.2.2 + q5)), some (.int x6), some (.int x7), some (.int x17), some (.int yy)]) dX7_lay_57 rfl (by decide) rfl (by decide) rfl (fun _ => rfl) (fun x18 => ?_)
        refine g_goto C 22 dX7_lay_60 (by decide) ?_
        exact ih x17 x18 h15
      · refine g_iconst (v := 1) C dX7_lay_47 (by decide) ?_
        refine g_iload (i := 4) C dX7_lay_48 rfl ?_
        refine g_ishl C dX7_lay_50 ?_
        refine g_goto C 55 dX7_lay_51 (by decide) ?_
        refine g_ior C dX7_lay_55 ?_
        refine g_topi (fun x19 => ?_)
        refine g_istore_n (i := 3) C [some (.ref (E.2.2.2 + q5)), some (.int x6), some (.int x7), some (.int x19), some (.int x9)] dX7_lay_56 rfl (by decide) rfl rfl ?_
        refine g_iinc (i := 4) (w := 1) C (fun yy => [some (.ref (E.2.2.2 + q5)), some (.int x6), some (.int x7), some (.int x19), some (.int yy)]) dX7_lay_57 rfl (by decide) rfl (by decide) rfl (fun _ => rfl) (fun x20 => ?_)
        refine g_goto C 22 dX7_lay_60 (by decide) ?_
        exact ih x19 x20 h15
set_option maxHeartbeats 4000000 in
set_option maxRecDepth 100000 in
theorem c_X7_lay (E : Ev) (o : Nat) (p0 : Int32) (eo : isO shM o 7 = true) (h : Hp) {r : Int32} {h' : Hp} (e : F_X7_lay o p0 h = some (r, h')) : Ctr E shM yX7_lay cX7_lay 5 (some .int) 5 [.ref (E.2.2.2 + o), .int p0] h (vi r) h' := by
  refine Ctr.ofG (val := vi) e (by decide) (Nat.le_of_ble_eq_true rfl) [some (.ref (E.2.2.2 + o)), some (.int p0), none, none, none] rfl (fun X C => ?_)
  unfold F_X7_lay
  refine g_aload_n (i := 0) C dX7_lay_0 rfl rfl ?_
  refine g_iload_n (i := 1) C dX7_lay_1 rfl rfl ?_
  refine g_cVi1 C cf_X7_145 cv_X7_isCheese eo (fun r h' e => c_X7_isCheese E o p0 eo h e) (by decide) (by decide) (Nat.le_of_ble_eq_true rfl) dX7_lay_2 (fun r2 h1 _ => ?_)
  refine g_if_ne C 10 dX7_lay_5 (by decide) (fun hc23 => ?_) (fun hc23 => ?_)
  · refine g_iconst (v := -1) C dX7_lay_8 (by decide) ?_
    exact g_ireti C dX7_lay_9
  · refine g_aload_n (i := 0) C dX7_lay_10 rfl rfl ?_
    refine g_getA C f_X7_22 eo dX7_lay_11 (fun q3 _ => ?_)
    refine g_iload_n (i := 1) C dX7_lay_14 rfl rfl ?_
    refine g_iald C dX7_lay_15 ?_
    refine g_topi (fun x4 => ?_)
    refine g_istore_n (i := 2) C [some (.ref (E.2.2.2 + o)), some (.int p0), some (.int x4), none, none] dX7_lay_16 rfl (by decide) rfl rfl ?_
    refine g_iconst (v := 0) C dX7_lay_17 (by decide) ?_
    refine g_istore_n (i := 3) C [some (.ref (E.2.2.2 + o)), some (.int p0), some (.int x4), some (.int (0 : Int32)), none] dX7_lay_18 rfl (by decide) rfl rfl ?_
    refine g_iconst (v := 0) C dX7_lay_19 (by decide) ?_
    refine g_istore (i := 4) C [some (.ref (E.2.2.2 + o)), some (.int p0), some (.int x4), some (.int (0 : Int32)), some (.int (0 : Int32))] dX7_lay_20 (by decide) rfl rfl ?_
    exact G_F_X7_lay_L22 C o p0 x4 eo FU (0 : Int32) (0 : Int32) h1
set_option maxHeartbeats 4000000 in
set_option maxRecDepth 100000 in
theorem c_X7_layer (E : Ev) (o : Nat) (p0 : Int32) (p1 : Int32) (eo : isO shM o 7 = true) (h : Hp) {r : Int32} {h' : Hp} (e : F_X7_layer o p0 p1 h = some (r, h')) : Ctr E shM yX7_layer cX7_layer 3 (some .int) 4 [.ref (E.2.2.2 + o), .int p0, .int p1] h (vi r) h' := by
  refine Ctr.ofG (val := vi) e (by decide) (Nat.le_of_ble_eq_true rfl) [some (.ref (E.2.2.2 + o)), some (.int p0), some (.int p1)] rfl (fun X C => ?_)
  unfold F_X7_layer
  refine g_aload_n (i := 0) C dX7_layer_0 rfl rfl ?_
  refine g_iload_n (i := 1) C dX7_layer_1 rfl rfl ?_
  refine g_cVi1 C cf_X7_145 cv_X7_isCheese eo (fun r h' e => c_X7_isCheese E o p0 eo h e) (by decide) (by decide) (Nat.le_of_ble_eq_true rfl) dX7_layer_2 (fun r2 h1 _ => ?_)
  refine g_if_eq C 25 dX7_layer_5 (by decide) (fun hc8 => ?_) (fun hc8 => ?_)
  · refine g_iconst (v := -1) C dX7_layer_25 (by decide) ?_
    exact g_ireti C dX7_layer_26
  · refine g_iload_n (i := 2) C dX7_layer_8 rfl rfl ?_
    refine g_if_lt C 25 dX7_layer_9 (by decide) (fun hc7 => ?_) (fun hc7 => ?_)
    · refine g_iconst (v := -1) C dX7_layer_25 (by decide) ?_
      exact g_ireti C dX7_layer_26
    · refine g_aload_n (i := 0) C dX7_layer_12 rfl rfl ?_
      refine g_aload_n (i := 0) C dX7_layer_13 rfl rfl ?_
      refine g_iload_n (i := 1) C dX7_layer_14 rfl rfl ?_
      refine g_cVi1 C cf_X7_170 cv_X7_heardBy eo (fun r h' e => c_X7_heardBy E o p0 eo h1 e) (by decide) (by decide) (Nat.le_of_ble_eq_true rfl) dX7_layer_15 (fun r4 h3 _ => ?_)
      refine g_iload_n (i := 2) C dX7_layer_18 rfl rfl ?_
      refine g_cVi2 C cf_X7_173 cv_X7_layerOf eo (fun r h' e => c_X7_layerOf E o r4 p1 eo h3 e) (by decide) (by decide) (Nat.le_of_ble_eq_true rfl) dX7_layer_19 (fun r6 h5 _ => ?_)
      refine g_goto C 26 dX7_layer_22 (by decide) ?_
      exact g_ireti C dX7_layer_26
set_option maxHeartbeats 4000000 in
set_option maxRecDepth 100000 in
theorem G_F_X7_lose_J25 {E : Ev} {X : Cx} (C : Ok E X cX7_lose RX7 3 (some .int) 3) (q4 : Nat) (x5 : Int32) (y6 : Int32) (eq4 : isO shM q4 7 = true) (h7 : Hp) : G E shM X vi 25 [some (.ref (E.2.2.2 + q4)), some (.int x5), none] [.int y6] h7 (F_X7_lose_J25 q4 x5 y6 h7) := by
  unfold F_X7_lose_J25
  refine g_istore_n (i := 2) C [some (.ref (E.2.2.2 + q4)), some (.int x5), some (.int y6)] dX7_lose_25 rfl (by decide) rfl rfl ?_
  refine g_aload_n (i := 0) C dX7_lose_26 rfl rfl ?_
  refine g_getA C f_X7_9 eq4 dX7_lose_27 (fun q8 _ => ?_)
  refine g_iload_n (i := 1) C dX7_lose_30 rfl rfl ?_
  refine g_bipush (v := -9) C dX7_lose_31 (by decide) ?_
  refine g_iast C dX7_lose_33 (fun h9 => ?_)
  refine g_iload_n (i := 2) C dX7_lose_34 rfl rfl ?_
  exact g_ireti C dX7_lose_35
set_option maxHeartbeats 4000000 in
set_option maxRecDepth 100000 in
theorem c_X7_lose (E : Ev) (o : Nat) (p0 : Int32) (eo : isO shM o 7 = true) (h : Hp) {r : Int32} {h' : Hp} (e : F_X7_lose o p0 h = some (r, h')) : Ctr E shM yX7_lose cX7_lose 3 (some .int) 3 [.ref (E.2.2.2 + o), .int p0] h (vi r) h' := by
  refine Ctr.ofG (val := vi) e (by decide) (Nat.le_of_ble_eq_true rfl) [some (.ref (E.2.2.2 + o)), some (.int p0), none] rfl (fun X C => ?_)
  unfold F_X7_lose
  refine g_iload_n (i := 1) C dX7_lose_0 rfl rfl ?_
  refine g_cSi1 C cf_X7_95 aw_30 (fun r h' e => c_X7_isSheet E p0 h e) (by decide) (by decide) (Nat.le_of_ble_eq_true rfl) dX7_lose_1 (fun r2 h1 _ => ?_)
  refine g_if_ne C 9 dX7_lose_4 (by decide) (fun hc11 => ?_) (fun hc11 => ?_)
  · refine g_iconst (v := -1) C dX7_lose_7 (by decide) ?_
    exact g_ireti C dX7_lose_8
  · refine g_aload_n (i := 0) C dX7_lose_9 rfl rfl ?_
    refine g_getA C f_X7_9 eo dX7_lose_10 (fun q3 _ => ?_)
    refine g_iload_n (i := 1) C dX7_lose_13 rfl rfl ?_
    refine g_iald C dX7_lose_14 ?_
    refine g_bipush (v := -9) C dX7_lose_15 (by decide) ?_
    refine g_icmp_ne C 24 dX7_lose_17 (by decide) (fun hc10 => ?_) (fun hc10 => ?_)
    · refine g_iconst (v := 0) C dX7_lose_20 (by decide) ?_
      refine g_goto C 25 dX7_lose_21 (by decide) ?_
      exact G_F_X7_lose_J25 C o p0 (0 : Int32) eo h1
    · refine g_iconst (v := 1) C dX7_lose_24 (by decide) ?_
      exact G_F_X7_lose_J25 C o p0 (1 : Int32) eo h1
set_option maxHeartbeats 4000000 in
set_option maxRecDepth 100000 in
theorem G_F_X7_louds_L22 {E : Ev} {X : Cx} (C : Ok E X cX7_louds RX7 5 (some .int) 5) (q5 : Nat) (x6 : Int32) (x7 : Int32) (eq5 : isO shM q5 7 = true) : ∀ (N : Nat) (x8 : Int32) (x9 : Int32) (h10 : Hp), G E shM X vi 22 [some (.ref (E.2.2.2 + q5)), some (.int x6), some (.int x7), some (.int x8), some (.int x9)] [] h10 (F_X7_louds_L22 q5 x6 x7 N x8 x9 h10) := by
  intro N
  induction N with
  | zero =>
    intro _ _ _
    exact g_none
  | succ N ih =>
    intro x8 x9 h10
    rw [F_X7_louds_L22]
    refine g_iload (i := 4) C dX7_louds_22 rfl ?_
    refine g_bipush (v := 9) C dX7_louds_24 (by decide) ?_
    refine g_icmp_gt C 61 dX7_louds_26 (by decide) (fun hc22 => ?_) (fun hc22 => ?_)
    · refine g_aload_n (i := 0) C dX7_louds_61 rfl rfl ?_
      refine g_getA C f_X7_34 eq5 dX7_louds_62 (fun q11 _ => ?_)
      refine g_iload_n (i := 1) C dX7_louds_65 rfl rfl ?_
      refine g_iload_n (i := 2) C dX7_louds_66 rfl rfl ?_
      refine g_iast C dX7_louds_67 (fun h12 => ?_)
      refine g_iload_n (i := 3) C dX7_louds_68 rfl rfl ?_
      exact g_ireti C dX7_louds_69
    · refine g_aload_n (i := 0) C dX7_louds_29 rfl rfl ?_
      refine g_getA C f_X7_34 eq5 dX7_louds_30 (fun q13 _ => ?_)
      refine g_iload_n (i := 1) C dX7_louds_33 rfl rfl ?_
      refine g_iload (i := 4) C dX7_louds_34 rfl ?_
      refine g_iast C dX7_louds_36 (fun h14 => ?_)
      refine g_iload_n (i := 3) C dX7_louds_37 rfl rfl ?_
      refine g_aload_n (i := 0) C dX7_louds_38 rfl rfl ?_
      refine g_cVi0 C cf_X7_208 cv_X7_areSo eq5 (fun r h' e => c_X7_areSo E q5 eq5 h14 e) (by decide) (by decide) (Nat.le_of_ble_eq_true rfl) dX7_louds_39 (fun r16 h15 _ => ?_)
      refine g_if_eq C 52 dX7_louds_42 (by decide) (fun hc21 => ?_) (fun hc21 => ?_)
      · refine g_iconst (v := 0) C dX7_louds_52 (by decide) ?_
        refine g_ior C dX7_louds_53 ?_
        refine g_topi (fun x17 => ?_)
        refine g_istore_n (i := 3) C [some (.ref (E.2.2.2 + q5)), some (.int x6), some (.int x7), some (.int x17), some (.int x9)] dX7_louds_54 rfl (by decide) rfl rfl ?_
        refine g_iinc (i := 4) (w := 1) C (fun yy => [some (.ref (E.2.2.2 + q5)), some (.int x6), some (.int x7), some (.int x17), some (.int yy)]) dX7_louds_55 rfl (by decide) rfl (by decide) rfl (fun _ => rfl) (fun x18 => ?_)
        refine g_goto C 22 dX7_louds_58 (by decide) ?_
        exact ih x17 x18 h15
      · refine g_iconst (v := 1) C dX7_louds_45 (by decide) ?_
        refine g_iload (i := 4) C dX7_louds_46 rfl ?_
        refine g_ishl C dX7_louds_48 ?_
        refine g_goto C 53 dX7_louds_49 (by decide) ?_
        refine g_ior C dX7_louds_53 ?_
        refine g_topi (fun x19 => ?_)
        refine g_istore_n (i := 3) C [some (.ref (E.2.2.2 + q5)), some (.int x6), some (.int x7), some (.int x19), some (.int x9)] dX7_louds_54 rfl (by decide) rfl rfl ?_
        refine g_iinc (i := 4) (w := 1) C (fun yy => [some (.ref (E.2.2.2 + q5)), some (.int x6), some (.int x7), some (.int x19), some (.int yy)]) dX7_louds_55 rfl (by decide) rfl (by decide) rfl (fun _ => rfl) (fun x20 => ?_)
        refine g_goto C 22 dX7_louds_58 (by decide) ?_
        exact ih x19 x20 h15
set_option maxHeartbeats 4000000 in
set_option maxRecDepth 100000 in
theorem c_X7_louds (E : Ev) (o : Nat) (p0 : Int32) (eo : isO shM o 7 = true) (h : Hp) {r : Int32} {h' : Hp} (e : F_X7_louds o p0 h = some (r, h')) : Ctr E shM yX7_louds cX7_louds 5 (some .int) 5 [.ref (E.2.2.2 + o), .int p0] h (vi r) h' := by
  refine Ctr.ofG (val := vi) e (by decide) (Nat.le_of_ble_eq_true rfl) [some (.ref (E.2.2.2 + o)), some (.int p0), none, none, none] rfl (fun X C => ?_)
  unfold F_X7_louds
  refine g_aload_n (i := 0) C dX7_louds_0 rfl rfl ?_
  refine g_iload_n (i := 1) C dX7_louds_1 rfl rfl ?_
  refine g_cVi1 C cf_X7_148 cv_X7_isTalk eo (fun r h' e => c_X7_isTalk E o p0 eo h e) (by decide) (by decide) (Nat.le_of_ble_eq_true rfl) dX7_louds_2 (fun r2 h1 _ => ?_)
  refine g_if_ne C 10 dX7_louds_5 (by decide) (fun hc23 => ?_) (fun hc23 => ?_)
  · refine g_iconst (v := -1) C dX7_louds_8 (by decide) ?_
    exact g_ireti C dX7_louds_9
  · refine g_aload_n (i := 0) C dX7_louds_10 rfl rfl ?_
    refine g_getA C f_X7_34 eo dX7_louds_11 (fun q3 _ => ?_)
    refine g_iload_n (i := 1) C dX7_louds_14 rfl rfl ?_
    refine g_iald C dX7_louds_15 ?_
    refine g_topi (fun x4 => ?_)
    refine g_istore_n (i := 2) C [some (.ref (E.2.2.2 + o)), some (.int p0), some (.int x4), none, none] dX7_louds_16 rfl (by decide) rfl rfl ?_
    refine g_iconst (v := 0) C dX7_louds_17 (by decide) ?_
    refine g_istore_n (i := 3) C [some (.ref (E.2.2.2 + o)), some (.int p0), some (.int x4), some (.int (0 : Int32)), none] dX7_louds_18 rfl (by decide) rfl rfl ?_
    refine g_iconst (v := 1) C dX7_louds_19 (by decide) ?_
    refine g_istore (i := 4) C [some (.ref (E.2.2.2 + o)), some (.int p0), some (.int x4), some (.int (0 : Int32)), some (.int (1 : Int32))] dX7_louds_20 (by decide) rfl rfl ?_
    exact G_F_X7_louds_L22 C o p0 x4 eo FU (0 : Int32) (1 : Int32) h1
set_option maxHeartbeats 4000000 in
set_option maxRecDepth 100000 in
theorem c_X7_many (E : Ev) (o : Nat) (p0 : Int32) (eo : isO shM o 7 = true) (h : Hp) {r : Int32} {h' : Hp} (e : F_X7_many o p0 h = some (r, h')) : Ctr E shM yX7_many cX7_many 2 (some .int) 1 [.ref (E.2.2.2 + o), .int p0] h (vi r) h' := by
  refine Ctr.ofG (val := vi) e (by decide) (Nat.le_of_ble_eq_true rfl) [some (.ref (E.2.2.2 + o)), some (.int p0)] rfl (fun X C => ?_)
  unfold F_X7_many
  refine g_iload_n (i := 1) C dX7_many_0 rfl rfl ?_
  refine g_if (fun hs1_0 => ?_) (fun hs1_0 => ?_)
  · refine g_tsIn C 36 (off := 35) dX7_many_1 (by rw [hs1_0]; decide) (by rw [hs1_0]; decide) (by rw [hs1_0]; rfl) (by decide) ?_
    refine g_aload_n (i := 0) C dX7_many_36 rfl rfl ?_
    refine g_getI C f_X7_89 eo dX7_many_37 ?_
    exact g_ireti C dX7_many_40
  · refine g_if (fun hs1_1 => ?_) (fun hs1_1 => ?_)
    · refine g_tsIn C 41 (off := 40) dX7_many_1 (by rw [hs1_1]; decide) (by rw [hs1_1]; decide) (by rw [hs1_1]; rfl) (by decide) ?_
      refine g_aload_n (i := 0) C dX7_many_41 rfl rfl ?_
      refine g_getI C f_X7_83 eo dX7_many_42 ?_
      exact g_ireti C dX7_many_45
    · refine g_if (fun hs1_2 => ?_) (fun hs1_2 => ?_)
      · refine g_tsIn C 46 (off := 45) dX7_many_1 (by rw [hs1_2]; decide) (by rw [hs1_2]; decide) (by rw [hs1_2]; rfl) (by decide) ?_
        refine g_aload_n (i := 0) C dX7_many_46 rfl rfl ?_
        refine g_getI C f_X7_86 eo dX7_many_47 ?_
        exact g_ireti C dX7_many_50
      · refine g_if (fun hs1_3 => ?_) (fun hs1_3 => ?_)
        · refine g_tsIn C 51 (off := 50) dX7_many_1 (by rw [hs1_3]; decide) (by rw [hs1_3]; decide) (by rw [hs1_3]; rfl) (by decide) ?_
          refine g_aload_n (i := 0) C dX7_many_51 rfl rfl ?_
          refine g_getI C f_X7_125 eo dX7_many_52 ?_
          exact g_ireti C dX7_many_55
        · refine g_if (fun hs1_4 => ?_) (fun hs1_4 => ?_)
          · refine g_tsIn C 56 (off := 55) dX7_many_1 (by rw [hs1_4]; decide) (by rw [hs1_4]; decide) (by rw [hs1_4]; rfl) (by decide) ?_
            refine g_aload_n (i := 0) C dX7_many_56 rfl rfl ?_
            refine g_getI C f_X7_128 eo dX7_many_57 ?_
            exact g_ireti C dX7_many_60
          · refine g_tsOut C 61 dX7_many_1 (ts_out 5 (by decide) (by decide) (fun j hj => by rcases (show j = 0 ∨ j = 1 ∨ j = 2 ∨ j = 3 ∨ j = 4 by omega) with rfl | rfl | rfl | rfl | rfl <;> assumption)) (by decide) ?_
            refine g_bipush (v := -2) C dX7_many_61 (by decide) ?_
            exact g_ireti C dX7_many_63
set_option maxHeartbeats 4000000 in
set_option maxRecDepth 100000 in
theorem c_X7_move (E : Ev) (o : Nat) (p0 : Int32) (p1 : Int32) (p2 : Int32) (eo : isO shM o 7 = true) (h : Hp) {r : Int32} {h' : Hp} (e : F_X7_move o p0 p1 p2 h = some (r, h')) : Ctr E shM yX7_move cX7_move 4 (some .int) 3 [.ref (E.2.2.2 + o), .int p0, .int p1, .int p2] h (vi r) h' := by
  refine Ctr.ofG (val := vi) e (by decide) (Nat.le_of_ble_eq_true rfl) [some (.ref (E.2.2.2 + o)), some (.int p0), some (.int p1), some (.int p2)] rfl (fun X C => ?_)
  unfold F_X7_move
  refine g_aload_n (i := 0) C dX7_move_0 rfl rfl ?_
  refine g_iload_n (i := 1) C dX7_move_1 rfl rfl ?_
  refine g_cVi1 C cf_X7_145 cv_X7_isCheese eo (fun r h' e => c_X7_isCheese E o p0 eo h e) (by decide) (by decide) (Nat.le_of_ble_eq_true rfl) dX7_move_2 (fun r2 h1 _ => ?_)
  refine g_if_eq C 16 dX7_move_5 (by decide) (fun hc17 => ?_) (fun hc17 => ?_)
  · refine g_iconst (v := -1) C dX7_move_16 (by decide) ?_
    exact g_ireti C dX7_move_17
  · refine g_aload_n (i := 0) C dX7_move_8 rfl rfl ?_
    refine g_iload_n (i := 3) C dX7_move_9 rfl rfl ?_
    refine g_cVi1 C cf_X7_151 cv_X7_isCellar eo (fun r h' e => c_X7_isCellar E o p2 eo h1 e) (by decide) (by decide) (Nat.le_of_ble_eq_true rfl) dX7_move_10 (fun r4 h3 _ => ?_)
    refine g_if_ne C 18 dX7_move_13 (by decide) (fun hc16 => ?_) (fun hc16 => ?_)
    · refine g_iconst (v := -1) C dX7_move_16 (by decide) ?_
      exact g_ireti C dX7_move_17
    · refine g_iload_n (i := 2) C dX7_move_18 rfl rfl ?_
      refine g_cSi1 C cf_X7_154 aw_32 (fun r h' e => c_X7_isDay E p1 h3 e) (by decide) (by decide) (Nat.le_of_ble_eq_true rfl) dX7_move_19 (fun r6 h5 _ => ?_)
      refine g_if_ne C 28 dX7_move_22 (by decide) (fun hc15 => ?_) (fun hc15 => ?_)
      · refine g_bipush (v := -2) C dX7_move_25 (by decide) ?_
        exact g_ireti C dX7_move_27
      · refine g_aload_n (i := 0) C dX7_move_28 rfl rfl ?_
        refine g_getI C f_X7_125 eo dX7_move_29 ?_
        refine g_bipush (v := 8) C dX7_move_32 (by decide) ?_
        refine g_icmp_ne C 40 dX7_move_34 (by decide) (fun hc14 => ?_) (fun hc14 => ?_)
        · refine g_bipush (v := -4) C dX7_move_37 (by decide) ?_
          exact g_ireti C dX7_move_39
        · refine g_aload_n (i := 0) C dX7_move_40 rfl rfl ?_
          refine g_getA C f_X7_40 eo dX7_move_41 (fun q7 _ => ?_)
          refine g_aload_n (i := 0) C dX7_move_44 rfl rfl ?_
          refine g_getI C f_X7_125 eo dX7_move_45 ?_
          refine g_iload_n (i := 1) C dX7_move_48 rfl rfl ?_
          refine g_iast C dX7_move_49 (fun h8 => ?_)
          refine g_aload_n (i := 0) C dX7_move_50 rfl rfl ?_
          refine g_getA C f_X7_43 eo dX7_move_51 (fun q9 _ => ?_)
          refine g_aload_n (i := 0) C dX7_move_54 rfl rfl ?_
          refine g_getI C f_X7_125 eo dX7_move_55 ?_
          refine g_iload_n (i := 2) C dX7_move_58 rfl rfl ?_
          refine g_iast C dX7_move_59 (fun h10 => ?_)
          refine g_aload_n (i := 0) C dX7_move_60 rfl rfl ?_
          refine g_getA C f_X7_46 eo dX7_move_61 (fun q11 _ => ?_)
          refine g_aload_n (i := 0) C dX7_move_64 rfl rfl ?_
          refine g_getI C f_X7_125 eo dX7_move_65 ?_
          refine g_iload_n (i := 3) C dX7_move_68 rfl rfl ?_
          refine g_iast C dX7_move_69 (fun h12 => ?_)
          refine g_aload_n (i := 0) C dX7_move_70 rfl rfl ?_
          refine g_dup C dX7_move_71 rfl ?_
          refine g_getI C f_X7_125 eo dX7_move_72 ?_
          refine g_iconst (v := 1) C dX7_move_75 (by decide) ?_
          refine g_iadd C dX7_move_76 ?_
          refine g_putI C f_X7_125 eo dX7_move_77 (fun h13 => ?_)
          refine g_aload_n (i := 0) C dX7_move_80 rfl rfl ?_
          refine g_getI C f_X7_125 eo dX7_move_81 ?_
          refine g_iconst (v := 1) C dX7_move_84 (by decide) ?_
          refine g_isub C dX7_move_85 ?_
          exact g_ireti C dX7_move_86
set_option maxHeartbeats 4000000 in
set_option maxRecDepth 100000 in
theorem G_F_X7_odds_L34 {E : Ev} {X : Cx} (C : Ok E X cX7_odds RX7 6 (some .long) 4) (k77 : Int32 → Hp → Option (Int64 × Hp)) (q7 : Nat) (x8 : Int32) (x9 : Int32) (x10 : Int32) (hk77 : ∀ (z4 : Int32) (hh : Hp), G E shM X vl 77 [some (.ref (E.2.2.2 + q7)), none, none, some (.int x10), some (.int z4), none] [] hh (k77 z4 hh)) (eq7 : isO shM q7 7 = true) : ∀ (N : Nat) (x11 : Int32) (x12 : Int32) (h13 : Hp), G E shM X vl 34 [some (.ref (E.2.2.2 + q7)), some (.int x8), some (.int x9), some (.int x10), some (.int x11), some (.int x12)] [] h13 (F_X7_odds_L34 k77 q7 x8 x9 x10 N x11 x12 h13) := by
  intro N
  induction N with
  | zero =>
    intro _ _ _
    exact g_none
  | succ N ih =>
    intro x11 x12 h13
    rw [F_X7_odds_L34]
    refine g_iload (i := 5) C dX7_odds_34 rfl ?_
    refine g_iconst (v := 1) C dX7_odds_36 (by decide) ?_
    refine g_aload_n (i := 0) C dX7_odds_37 rfl rfl ?_
    refine g_getI C f_X7_89 eq7 dX7_odds_38 ?_
    refine g_ishl C dX7_odds_41 ?_
    refine g_icmp_ge C 77 dX7_odds_42 (by decide) (fun hc21 => ?_) (fun hc21 => ?_)
    · refine g_drop (i := 1) [some (.ref (E.2.2.2 + q7)), none, some (.int x9), some (.int x10), some (.int x11), some (.int x12)] rfl ?_
      refine g_drop (i := 2) [some (.ref (E.2.2.2 + q7)), none, none, some (.int x10), some (.int x11), some (.int x12)] rfl ?_
      refine g_drop (i := 5) [some (.ref (E.2.2.2 + q7)), none, none, some (.int x10), some (.int x11), none] rfl ?_
      exact hk77 x11 h13
    · refine g_aload_n (i := 0) C dX7_odds_45 rfl rfl ?_
      refine g_iload (i := 5) C dX7_odds_46 rfl ?_
      refine g_putI C f_X7_161 eq7 dX7_odds_48 (fun h14 => ?_)
      refine g_iload (i := 4) C dX7_odds_51 rfl ?_
      refine g_aload_n (i := 0) C dX7_odds_53 rfl rfl ?_
      refine g_aload_n (i := 0) C dX7_odds_54 rfl rfl ?_
      refine g_iload_n (i := 1) C dX7_odds_55 rfl rfl ?_
      refine g_cVi1 C cf_X7_170 cv_X7_heardBy eq7 (fun r h' e => c_X7_heardBy E q7 x8 eq7 h14 e) (by decide) (by decide) (Nat.le_of_ble_eq_true rfl) dX7_odds_56 (fun r16 h15 _ => ?_)
      refine g_bipush (v := 8) C dX7_odds_59 (by decide) ?_
      refine g_cVi2 C cf_X7_182 cv_X7_wordsOf eq7 (fun r h' e => c_X7_wordsOf E q7 r16 (8 : Int32) eq7 h15 e) (by decide) (by decide) (Nat.le_of_ble_eq_true rfl) dX7_odds_61 (fun r18 h17 _ => ?_)
      refine g_iload_n (i := 2) C dX7_odds_64 rfl rfl ?_
      refine g_ishr C dX7_odds_65 ?_
      refine g_iconst (v := 1) C dX7_odds_66 (by decide) ?_
      refine g_iand C dX7_odds_67 ?_
      refine g_iadd C dX7_odds_68 ?_
      refine g_topi (fun x19 => ?_)
      refine g_istore (i := 4) C [some (.ref (E.2.2.2 + q7)), some (.int x8), some (.int x9), some (.int x10), some (.int x19), some (.int x12)] dX7_odds_69 (by decide) rfl rfl ?_
      refine g_iinc (i := 5) (w := 1) C (fun yy => [some (.ref (E.2.2.2 + q7)), some (.int x8), some (.int x9), some (.int x10), some (.int x19), some (.int yy)]) dX7_odds_71 rfl (by decide) rfl (by decide) rfl (fun _ => rfl) (fun x20 => ?_)
      refine g_goto C 34 dX7_odds_74 (by decide) ?_
      exact ih x19 x20 h17
set_option maxHeartbeats 4000000 in
set_option maxRecDepth 100000 in
theorem c_X7_odds (E : Ev) (o : Nat) (p0 : Int32) (p1 : Int32) (p2 : Int32) (eo : isO shM o 7 = true) (h : Hp) {r : Int64} {h' : Hp} (e : F_X7_odds o p0 p1 p2 h = some (r, h')) : Ctr E shM yX7_odds cX7_odds 6 (some .long) 4 [.ref (E.2.2.2 + o), .int p0, .int p1, .int p2] h (vl r) h' := by
  refine Ctr.ofG (val := vl) e (by decide) (Nat.le_of_ble_eq_true rfl) [some (.ref (E.2.2.2 + o)), some (.int p0), some (.int p1), some (.int p2), none, none] rfl (fun X C => ?_)
  unfold F_X7_odds
  refine g_aload_n (i := 0) C dX7_odds_0 rfl rfl ?_
  refine g_iload_n (i := 1) C dX7_odds_1 rfl rfl ?_
  refine g_cVi1 C cf_X7_145 cv_X7_isCheese eo (fun r h' e => c_X7_isCheese E o p0 eo h e) (by decide) (by decide) (Nat.le_of_ble_eq_true rfl) dX7_odds_2 (fun r2 h1 _ => ?_)
  refine g_if_eq C 24 dX7_odds_5 (by decide) (fun hc29 => ?_) (fun hc29 => ?_)
  · refine g_ldc2 (v := -9223372036854775808) C dX7_odds_24 aw_28 ?_
    exact g_lret C dX7_odds_27
  · refine g_iload_n (i := 2) C dX7_odds_8 rfl rfl ?_
    refine g_cSi1 C cf_X7_176 aw_31 (fun r h' e => c_X7_isWord E p1 h1 e) (by decide) (by decide) (Nat.le_of_ble_eq_true rfl) dX7_odds_9 (fun r4 h3 _ => ?_)
    refine g_if_eq C 24 dX7_odds_12 (by decide) (fun hc28 => ?_) (fun hc28 => ?_)
    · refine g_ldc2 (v := -9223372036854775808) C dX7_odds_24 aw_28 ?_
      exact g_lret C dX7_odds_27
    · refine g_iload_n (i := 3) C dX7_odds_15 rfl rfl ?_
      refine g_iconst (v := 0) C dX7_odds_16 (by decide) ?_
      refine g_iconst (v := 1) C dX7_odds_17 (by decide) ?_
      refine g_cSi3 C cf_X7_79 aw_27 (fun r h' e => c_X7_within E p2 (0 : Int32) (1 : Int32) h3 e) (by decide) (by decide) (Nat.le_of_ble_eq_true rfl) dX7_odds_18 (fun r6 h5 _ => ?_)
      refine g_if_ne C 28 dX7_odds_21 (by decide) (fun hc27 => ?_) (fun hc27 => ?_)
      · refine g_ldc2 (v := -9223372036854775808) C dX7_odds_24 aw_28 ?_
        exact g_lret C dX7_odds_27
      · refine g_iconst (v := 0) C dX7_odds_28 (by decide) ?_
        refine g_istore (i := 4) C [some (.ref (E.2.2.2 + o)), some (.int p0), some (.int p1), some (.int p2), some (.int (0 : Int32)), none] dX7_odds_29 (by decide) rfl rfl ?_
        refine g_iconst (v := 0) C dX7_odds_31 (by decide) ?_
        refine g_istore (i := 5) C [some (.ref (E.2.2.2 + o)), some (.int p0), some (.int p1), some (.int p2), some (.int (0 : Int32)), some (.int (0 : Int32))] dX7_odds_32 (by decide) rfl rfl ?_
        refine G_F_X7_odds_L34 C _ o p0 p1 p2 (fun w22 h23 => ?_) eo FU (0 : Int32) (0 : Int32) h5
        refine g_aload_n (i := 0) C dX7_odds_77 rfl rfl ?_
        refine g_iconst (v := 0) C dX7_odds_78 (by decide) ?_
        refine g_putI C f_X7_161 eo dX7_odds_79 (fun h24 => ?_)
        refine g_iload (i := 4) C dX7_odds_82 rfl ?_
        refine g_i2l C dX7_odds_84 ?_
        refine g_lconst (v := 1) C dX7_odds_85 (by decide) ?_
        refine g_aload_n (i := 0) C dX7_odds_86 rfl rfl ?_
        refine g_getI C f_X7_89 eo dX7_odds_87 ?_
        refine g_lshl C dX7_odds_90 ?_
        refine g_iload_n (i := 3) C dX7_odds_91 rfl rfl ?_
        refine g_cSl3 C cf_X7_212 aw_33 (fun r h' e => c_X7_inLeastTerms E (w22).toInt64 ((1 : Int64) <<< (((h24.1 o 7)).toInt64 &&& 63)) p2 h24 e) (by decide) (by decide) (Nat.le_of_ble_eq_true rfl) dX7_odds_92 (fun r26 h25 _ => ?_)
        exact g_lret C dX7_odds_95
set_option maxHeartbeats 4000000 in
set_option maxRecDepth 100000 in
theorem c_X7_ofCheese (E : Ev) (o : Nat) (p0 : Int32) (p1 : Int32) (eo : isO shM o 7 = true) (h : Hp) {r : Int32} {h' : Hp} (e : F_X7_ofCheese o p0 p1 h = some (r, h')) : Ctr E shM yX7_ofCheese cX7_ofCheese 3 (some .int) 2 [.ref (E.2.2.2 + o), .int p0, .int p1] h (vi r) h' := by
  refine Ctr.ofG (val := vi) e (by decide) (Nat.le_of_ble_eq_true rfl) [some (.ref (E.2.2.2 + o)), some (.int p0), some (.int p1)] rfl (fun X C => ?_)
  unfold F_X7_ofCheese
  refine g_aload_n (i := 0) C dX7_ofCheese_0 rfl rfl ?_
  refine g_iload_n (i := 1) C dX7_ofCheese_1 rfl rfl ?_
  refine g_cVi1 C cf_X7_145 cv_X7_isCheese eo (fun r h' e => c_X7_isCheese E o p0 eo h e) (by decide) (by decide) (Nat.le_of_ble_eq_true rfl) dX7_ofCheese_2 (fun r2 h1 _ => ?_)
  refine g_if_ne C 10 dX7_ofCheese_5 (by decide) (fun hc7 => ?_) (fun hc7 => ?_)
  · refine g_iconst (v := -1) C dX7_ofCheese_8 (by decide) ?_
    exact g_ireti C dX7_ofCheese_9
  · refine g_iload_n (i := 2) C dX7_ofCheese_10 rfl rfl ?_
    refine g_if (fun hs11_0 => ?_) (fun hs11_0 => ?_)
    · refine g_tsIn C 40 (off := 29) dX7_ofCheese_11 (by rw [hs11_0]; decide) (by rw [hs11_0]; decide) (by rw [hs11_0]; rfl) (by decide) ?_
      refine g_aload_n (i := 0) C dX7_ofCheese_40 rfl rfl ?_
      refine g_getA C f_X7_19 eo dX7_ofCheese_41 (fun q3 _ => ?_)
      refine g_iload_n (i := 1) C dX7_ofCheese_44 rfl rfl ?_
      refine g_iald C dX7_ofCheese_45 ?_
      exact g_ireti C dX7_ofCheese_46
    · refine g_if (fun hs11_1 => ?_) (fun hs11_1 => ?_)
      · refine g_tsIn C 47 (off := 36) dX7_ofCheese_11 (by rw [hs11_1]; decide) (by rw [hs11_1]; decide) (by rw [hs11_1]; rfl) (by decide) ?_
        refine g_aload_n (i := 0) C dX7_ofCheese_47 rfl rfl ?_
        refine g_getA C f_X7_22 eo dX7_ofCheese_48 (fun q4 _ => ?_)
        refine g_iload_n (i := 1) C dX7_ofCheese_51 rfl rfl ?_
        refine g_iald C dX7_ofCheese_52 ?_
        exact g_ireti C dX7_ofCheese_53
      · refine g_if (fun hs11_2 => ?_) (fun hs11_2 => ?_)
        · refine g_tsIn C 54 (off := 43) dX7_ofCheese_11 (by rw [hs11_2]; decide) (by rw [hs11_2]; decide) (by rw [hs11_2]; rfl) (by decide) ?_
          refine g_aload_n (i := 0) C dX7_ofCheese_54 rfl rfl ?_
          refine g_getA C f_X7_25 eo dX7_ofCheese_55 (fun q5 _ => ?_)
          refine g_iload_n (i := 1) C dX7_ofCheese_58 rfl rfl ?_
          refine g_iald C dX7_ofCheese_59 ?_
          exact g_ireti C dX7_ofCheese_60
        · refine g_if (fun hs11_3 => ?_) (fun hs11_3 => ?_)
          · refine g_tsIn C 61 (off := 50) dX7_ofCheese_11 (by rw [hs11_3]; decide) (by rw [hs11_3]; decide) (by rw [hs11_3]; rfl) (by decide) ?_
            refine g_aload_n (i := 0) C dX7_ofCheese_61 rfl rfl ?_
            refine g_getA C f_X7_28 eo dX7_ofCheese_62 (fun q6 _ => ?_)
            refine g_iload_n (i := 1) C dX7_ofCheese_65 rfl rfl ?_
            refine g_iald C dX7_ofCheese_66 ?_
            exact g_ireti C dX7_ofCheese_67
          · refine g_tsOut C 68 dX7_ofCheese_11 (ts_out 4 (by decide) (by decide) (fun j hj => by rcases (show j = 0 ∨ j = 1 ∨ j = 2 ∨ j = 3 by omega) with rfl | rfl | rfl | rfl <;> assumption)) (by decide) ?_
            refine g_bipush (v := -2) C dX7_ofCheese_68 (by decide) ?_
            exact g_ireti C dX7_ofCheese_70
set_option maxHeartbeats 4000000 in
set_option maxRecDepth 100000 in
theorem c_X7_ofTalk (E : Ev) (o : Nat) (p0 : Int32) (p1 : Int32) (eo : isO shM o 7 = true) (h : Hp) {r : Int32} {h' : Hp} (e : F_X7_ofTalk o p0 p1 h = some (r, h')) : Ctr E shM yX7_ofTalk cX7_ofTalk 3 (some .int) 2 [.ref (E.2.2.2 + o), .int p0, .int p1] h (vi r) h' := by
  refine Ctr.ofG (val := vi) e (by decide) (Nat.le_of_ble_eq_true rfl) [some (.ref (E.2.2.2 + o)), some (.int p0), some (.int p1)] rfl (fun X C => ?_)
  unfold F_X7_ofTalk
  refine g_aload_n (i := 0) C dX7_ofTalk_0 rfl rfl ?_
  refine g_iload_n (i := 1) C dX7_ofTalk_1 rfl rfl ?_
  refine g_cVi1 C cf_X7_148 cv_X7_isTalk eo (fun r h' e => c_X7_isTalk E o p0 eo h e) (by decide) (by decide) (Nat.le_of_ble_eq_true rfl) dX7_ofTalk_2 (fun r2 h1 _ => ?_)
  refine g_if_ne C 10 dX7_ofTalk_5 (by decide) (fun hc9 => ?_) (fun hc9 => ?_)
  · refine g_iconst (v := -1) C dX7_ofTalk_8 (by decide) ?_
    exact g_ireti C dX7_ofTalk_9
  · refine g_iload_n (i := 2) C dX7_ofTalk_10 rfl rfl ?_
    refine g_if_ne C 23 dX7_ofTalk_11 (by decide) (fun hc8 => ?_) (fun hc8 => ?_)
    · refine g_aload_n (i := 0) C dX7_ofTalk_14 rfl rfl ?_
      refine g_getA C f_X7_31 eo dX7_ofTalk_15 (fun q7 _ => ?_)
      refine g_iload_n (i := 1) C dX7_ofTalk_18 rfl rfl ?_
      refine g_iald C dX7_ofTalk_19 ?_
      refine g_goto C 53 dX7_ofTalk_20 (by decide) ?_
      exact g_ireti C dX7_ofTalk_53
    · refine g_iload_n (i := 2) C dX7_ofTalk_23 rfl rfl ?_
      refine g_iconst (v := 1) C dX7_ofTalk_24 (by decide) ?_
      refine g_icmp_ne C 37 dX7_ofTalk_25 (by decide) (fun hc6 => ?_) (fun hc6 => ?_)
      · refine g_aload_n (i := 0) C dX7_ofTalk_28 rfl rfl ?_
        refine g_getA C f_X7_34 eo dX7_ofTalk_29 (fun q5 _ => ?_)
        refine g_iload_n (i := 1) C dX7_ofTalk_32 rfl rfl ?_
        refine g_iald C dX7_ofTalk_33 ?_
        refine g_goto C 53 dX7_ofTalk_34 (by decide) ?_
        exact g_ireti C dX7_ofTalk_53
      · refine g_iload_n (i := 2) C dX7_ofTalk_37 rfl rfl ?_
        refine g_iconst (v := 2) C dX7_ofTalk_38 (by decide) ?_
        refine g_icmp_ne C 51 dX7_ofTalk_39 (by decide) (fun hc4 => ?_) (fun hc4 => ?_)
        · refine g_aload_n (i := 0) C dX7_ofTalk_42 rfl rfl ?_
          refine g_getA C f_X7_37 eo dX7_ofTalk_43 (fun q3 _ => ?_)
          refine g_iload_n (i := 1) C dX7_ofTalk_46 rfl rfl ?_
          refine g_iald C dX7_ofTalk_47 ?_
          refine g_goto C 53 dX7_ofTalk_48 (by decide) ?_
          exact g_ireti C dX7_ofTalk_53
        · refine g_bipush (v := -2) C dX7_ofTalk_51 (by decide) ?_
          exact g_ireti C dX7_ofTalk_53
set_option maxHeartbeats 4000000 in
set_option maxRecDepth 100000 in
theorem c_X7_put (E : Ev) (o : Nat) (p0 : Int32) (p1 : Int32) (p2 : Int32) (eo : isO shM o 7 = true) (h : Hp) {r : Int32} {h' : Hp} (e : F_X7_put o p0 p1 p2 h = some (r, h')) : Ctr E shM yX7_put cX7_put 4 (some .int) 3 [.ref (E.2.2.2 + o), .int p0, .int p1, .int p2] h (vi r) h' := by
  refine Ctr.ofG (val := vi) e (by decide) (Nat.le_of_ble_eq_true rfl) [some (.ref (E.2.2.2 + o)), some (.int p0), some (.int p1), some (.int p2)] rfl (fun X C => ?_)
  unfold F_X7_put
  refine g_aload_n (i := 0) C dX7_put_0 rfl rfl ?_
  refine g_iconst (v := 0) C dX7_put_1 (by decide) ?_
  refine g_putI C f_X7_73 eo dX7_put_2 (fun h1 => ?_)
  refine g_iload_n (i := 1) C dX7_put_5 rfl rfl ?_
  refine g_cSi1 C cf_X7_95 aw_30 (fun r h' e => c_X7_isSheet E p0 h1 e) (by decide) (by decide) (Nat.le_of_ble_eq_true rfl) dX7_put_6 (fun r3 h2 _ => ?_)
  refine g_if_ne C 14 dX7_put_9 (by decide) (fun hc22 => ?_) (fun hc22 => ?_)
  · refine g_iconst (v := -1) C dX7_put_12 (by decide) ?_
    exact g_ireti C dX7_put_13
  · refine g_aload_n (i := 0) C dX7_put_14 rfl rfl ?_
    refine g_getA C f_X7_9 eo dX7_put_15 (fun q4 _ => ?_)
    refine g_iload_n (i := 1) C dX7_put_18 rfl rfl ?_
    refine g_iald C dX7_put_19 ?_
    refine g_bipush (v := -9) C dX7_put_20 (by decide) ?_
    refine g_icmp_ne C 31 dX7_put_22 (by decide) (fun hc21 => ?_) (fun hc21 => ?_)
    · refine g_aload_n (i := 0) C dX7_put_25 rfl rfl ?_
      refine g_iconst (v := 1) C dX7_put_26 (by decide) ?_
      refine g_cVi1 C cf_X7_106 cv_X7_fails eo (fun r h' e => c_X7_fails E o (1 : Int32) eo h2 e) (by decide) (by decide) (Nat.le_of_ble_eq_true rfl) dX7_put_27 (fun r20 h19 _ => ?_)
      exact g_ireti C dX7_put_30
    · refine g_iload_n (i := 2) C dX7_put_31 rfl rfl ?_
      refine g_iconst (v := 0) C dX7_put_32 (by decide) ?_
      refine g_aload_n (i := 0) C dX7_put_33 rfl rfl ?_
      refine g_getA C f_X7_13 eo dX7_put_34 (fun q5 _ => ?_)
      refine g_iload_n (i := 1) C dX7_put_37 rfl rfl ?_
      refine g_iald C dX7_put_38 ?_
      refine g_iconst (v := 1) C dX7_put_39 (by decide) ?_
      refine g_isub C dX7_put_40 ?_
      refine g_cSi3 C cf_X7_79 aw_27 (fun r h' e => c_X7_within E p1 (0 : Int32) ((h2.1 q5 (p0).toNatClampNeg) - (1 : Int32)) h2 e) (by decide) (by decide) (Nat.le_of_ble_eq_true rfl) dX7_put_41 (fun r7 h6 _ => ?_)
      refine g_if_ne C 53 dX7_put_44 (by decide) (fun hc18 => ?_) (fun hc18 => ?_)
      · refine g_aload_n (i := 0) C dX7_put_47 rfl rfl ?_
        refine g_iconst (v := 3) C dX7_put_48 (by decide) ?_
        refine g_cVi1 C cf_X7_106 cv_X7_fails eo (fun r h' e => c_X7_fails E o (3 : Int32) eo h6 e) (by decide) (by decide) (Nat.le_of_ble_eq_true rfl) dX7_put_49 (fun r17 h16 _ => ?_)
        exact g_ireti C dX7_put_52
      · refine g_aload_n (i := 0) C dX7_put_53 rfl rfl ?_
        refine g_getA C f_X7_16 eo dX7_put_54 (fun q8 _ => ?_)
        refine g_bipush (v := 60) C dX7_put_57 (by decide) ?_
        refine g_iload_n (i := 1) C dX7_put_59 rfl rfl ?_
        refine g_imul C dX7_put_60 ?_
        refine g_iload_n (i := 2) C dX7_put_61 rfl rfl ?_
        refine g_iadd C dX7_put_62 ?_
        refine g_aload_n (i := 0) C dX7_put_63 rfl rfl ?_
        refine g_getA C f_X7_9 eo dX7_put_64 (fun q9 _ => ?_)
        refine g_iload_n (i := 1) C dX7_put_67 rfl rfl ?_
        refine g_iald C dX7_put_68 ?_
        refine g_if_ne C 77 dX7_put_69 (by decide) (fun hc15 => ?_) (fun hc15 => ?_)
        · refine g_iload_n (i := 3) C dX7_put_72 rfl rfl ?_
          refine g_i2b C dX7_put_73 ?_
          refine g_goto C 93 dX7_put_74 (by decide) ?_
          refine g_iast C dX7_put_93 (fun h14 => ?_)
          refine g_iconst (v := 1) C dX7_put_94 (by decide) ?_
          exact g_ireti C dX7_put_95
        · refine g_aload_n (i := 0) C dX7_put_77 rfl rfl ?_
          refine g_getA C f_X7_9 eo dX7_put_78 (fun q10 _ => ?_)
          refine g_iload_n (i := 1) C dX7_put_81 rfl rfl ?_
          refine g_iald C dX7_put_82 ?_
          refine g_iconst (v := 1) C dX7_put_83 (by decide) ?_
          refine g_icmp_ne C 92 dX7_put_84 (by decide) (fun hc13 => ?_) (fun hc13 => ?_)
          · refine g_iload_n (i := 3) C dX7_put_87 rfl rfl ?_
            refine g_i2s C dX7_put_88 ?_
            refine g_goto C 93 dX7_put_89 (by decide) ?_
            refine g_iast C dX7_put_93 (fun h12 => ?_)
            refine g_iconst (v := 1) C dX7_put_94 (by decide) ?_
            exact g_ireti C dX7_put_95
          · refine g_iload_n (i := 3) C dX7_put_92 rfl rfl ?_
            refine g_iast C dX7_put_93 (fun h11 => ?_)
            refine g_iconst (v := 1) C dX7_put_94 (by decide) ?_
            exact g_ireti C dX7_put_95
set_option maxHeartbeats 4000000 in
set_option maxRecDepth 100000 in
theorem G_F_X7_reading_J23 {E : Ev} {X : Cx} (C : Ok E X cX7_reading RX7 4 (some .int) 3) (q3 : Nat) (x4 : Int32) (x5 : Int32) (x6 : Int32) (eq3 : isO shM q3 7 = true) (h7 : Hp) : G E shM X vi 23 [some (.ref (E.2.2.2 + q3)), some (.int x4), some (.int x5), some (.int x6)] [] h7 (F_X7_reading_J23 q3 x4 x5 x6 h7) := by
  unfold F_X7_reading_J23
  refine g_iload_n (i := 2) C dX7_reading_23 rfl rfl ?_
  refine g_iconst (v := 0) C dX7_reading_24 (by decide) ?_
  refine g_bipush (v := 7) C dX7_reading_25 (by decide) ?_
  refine g_cSi3 C cf_X7_79 aw_27 (fun r h' e => c_X7_within E x5 (0 : Int32) (7 : Int32) h7 e) (by decide) (by decide) (Nat.le_of_ble_eq_true rfl) dX7_reading_27 (fun r9 h8 _ => ?_)
  refine g_if_ne C 36 dX7_reading_30 (by decide) (fun hc18 => ?_) (fun hc18 => ?_)
  · refine g_bipush (v := -2) C dX7_reading_33 (by decide) ?_
    exact g_ireti C dX7_reading_35
  · refine g_aload_n (i := 0) C dX7_reading_36 rfl rfl ?_
    refine g_getI C f_X7_128 eq3 dX7_reading_37 ?_
    refine g_bipush (v := 8) C dX7_reading_40 (by decide) ?_
    refine g_icmp_ne C 48 dX7_reading_42 (by decide) (fun hc17 => ?_) (fun hc17 => ?_)
    · refine g_bipush (v := -4) C dX7_reading_45 (by decide) ?_
      exact g_ireti C dX7_reading_47
    · refine g_aload_n (i := 0) C dX7_reading_48 rfl rfl ?_
      refine g_getA C f_X7_64 eq3 dX7_reading_49 (fun q10 _ => ?_)
      refine g_aload_n (i := 0) C dX7_reading_52 rfl rfl ?_
      refine g_getI C f_X7_128 eq3 dX7_reading_53 ?_
      refine g_iload_n (i := 1) C dX7_reading_56 rfl rfl ?_
      refine g_iast C dX7_reading_57 (fun h11 => ?_)
      refine g_aload_n (i := 0) C dX7_reading_58 rfl rfl ?_
      refine g_getA C f_X7_67 eq3 dX7_reading_59 (fun q12 _ => ?_)
      refine g_aload_n (i := 0) C dX7_reading_62 rfl rfl ?_
      refine g_getI C f_X7_128 eq3 dX7_reading_63 ?_
      refine g_iload_n (i := 2) C dX7_reading_66 rfl rfl ?_
      refine g_iast C dX7_reading_67 (fun h13 => ?_)
      refine g_aload_n (i := 0) C dX7_reading_68 rfl rfl ?_
      refine g_getA C f_X7_70 eq3 dX7_reading_69 (fun q14 _ => ?_)
      refine g_aload_n (i := 0) C dX7_reading_72 rfl rfl ?_
      refine g_getI C f_X7_128 eq3 dX7_reading_73 ?_
      refine g_iload_n (i := 3) C dX7_reading_76 rfl rfl ?_
      refine g_iast C dX7_reading_77 (fun h15 => ?_)
      refine g_aload_n (i := 0) C dX7_reading_78 rfl rfl ?_
      refine g_dup C dX7_reading_79 rfl ?_
      refine g_getI C f_X7_128 eq3 dX7_reading_80 ?_
      refine g_iconst (v := 1) C dX7_reading_83 (by decide) ?_
      refine g_iadd C dX7_reading_84 ?_
      refine g_putI C f_X7_128 eq3 dX7_reading_85 (fun h16 => ?_)
      refine g_aload_n (i := 0) C dX7_reading_88 rfl rfl ?_
      refine g_getI C f_X7_128 eq3 dX7_reading_89 ?_
      refine g_iconst (v := 1) C dX7_reading_92 (by decide) ?_
      refine g_isub C dX7_reading_93 ?_
      exact g_ireti C dX7_reading_94
set_option maxHeartbeats 4000000 in
set_option maxRecDepth 100000 in
theorem c_X7_reading (E : Ev) (o : Nat) (p0 : Int32) (p1 : Int32) (p2 : Int32) (eo : isO shM o 7 = true) (h : Hp) {r : Int32} {h' : Hp} (e : F_X7_reading o p0 p1 p2 h = some (r, h')) : Ctr E shM yX7_reading cX7_reading 4 (some .int) 3 [.ref (E.2.2.2 + o), .int p0, .int p1, .int p2] h (vi r) h' := by
  refine Ctr.ofG (val := vi) e (by decide) (Nat.le_of_ble_eq_true rfl) [some (.ref (E.2.2.2 + o)), some (.int p0), some (.int p1), some (.int p2)] rfl (fun X C => ?_)
  unfold F_X7_reading
  refine g_aload_n (i := 0) C dX7_reading_0 rfl rfl ?_
  refine g_iload_n (i := 1) C dX7_reading_1 rfl rfl ?_
  refine g_cVi1 C cf_X7_145 cv_X7_isCheese eo (fun r h' e => c_X7_isCheese E o p0 eo h e) (by decide) (by decide) (Nat.le_of_ble_eq_true rfl) dX7_reading_2 (fun r2 h1 _ => ?_)
  refine g_if_eq C 21 dX7_reading_5 (by decide) (fun hc23 => ?_) (fun hc23 => ?_)
  · refine g_iconst (v := -1) C dX7_reading_21 (by decide) ?_
    exact g_ireti C dX7_reading_22
  · refine g_iload_n (i := 3) C dX7_reading_8 rfl rfl ?_
    refine g_bipush (v := -9) C dX7_reading_9 (by decide) ?_
    refine g_icmp_eq C 23 dX7_reading_11 (by decide) (fun hc22 => ?_) (fun hc22 => ?_)
    · exact G_F_X7_reading_J23 C o p0 p1 p2 eo h1
    · refine g_iload_n (i := 3) C dX7_reading_14 rfl rfl ?_
      refine g_cSi1 C cf_X7_176 aw_31 (fun r h' e => c_X7_isWord E p2 h1 e) (by decide) (by decide) (Nat.le_of_ble_eq_true rfl) dX7_reading_15 (fun r20 h19 _ => ?_)
      refine g_if_ne C 23 dX7_reading_18 (by decide) (fun hc21 => ?_) (fun hc21 => ?_)
      · refine g_iconst (v := -1) C dX7_reading_21 (by decide) ?_
        exact g_ireti C dX7_reading_22
      · exact G_F_X7_reading_J23 C o p0 p1 p2 eo h19
set_option maxHeartbeats 4000000 in
set_option maxRecDepth 100000 in
theorem G_F_X7_sheet_L57 {E : Ev} {X : Cx} (C : Ok E X cX7_sheet RX7 5 (some .int) 3) (q10 : Nat) (x11 : Int32) (eq10 : isO shM q10 7 = true) : ∀ (N : Nat) (x12 : Int32) (h13 : Hp), G E shM X vi 57 [some (.ref (E.2.2.2 + q10)), some (.int x11), none, none, some (.int x12)] [] h13 (F_X7_sheet_L57 q10 x11 N x12 h13) := by
  intro N
  induction N with
  | zero =>
    intro _ _
    exact g_none
  | succ N ih =>
    intro x12 h13
    rw [F_X7_sheet_L57]
    refine g_iload (i := 4) C dX7_sheet_57 rfl ?_
    refine g_bipush (v := 60) C dX7_sheet_59 (by decide) ?_
    refine g_icmp_ge C 83 dX7_sheet_61 (by decide) (fun hc17 => ?_) (fun hc17 => ?_)
    · refine g_iconst (v := 1) C dX7_sheet_83 (by decide) ?_
      exact g_ireti C dX7_sheet_84
    · refine g_aload_n (i := 0) C dX7_sheet_64 rfl rfl ?_
      refine g_getA C f_X7_16 eq10 dX7_sheet_65 (fun q14 _ => ?_)
      refine g_bipush (v := 60) C dX7_sheet_68 (by decide) ?_
      refine g_iload_n (i := 1) C dX7_sheet_70 rfl rfl ?_
      refine g_imul C dX7_sheet_71 ?_
      refine g_iload (i := 4) C dX7_sheet_72 rfl ?_
      refine g_iadd C dX7_sheet_74 ?_
      refine g_iconst (v := 0) C dX7_sheet_75 (by decide) ?_
      refine g_iast C dX7_sheet_76 (fun h15 => ?_)
      refine g_iinc (i := 4) (w := 1) C (fun yy => [some (.ref (E.2.2.2 + q10)), some (.int x11), none, none, some (.int yy)]) dX7_sheet_77 rfl (by decide) rfl (by decide) rfl (fun _ => rfl) (fun x16 => ?_)
      refine g_goto C 57 dX7_sheet_80 (by decide) ?_
      exact ih x16 h15
set_option maxHeartbeats 4000000 in
set_option maxRecDepth 100000 in
theorem c_X7_sheet (E : Ev) (o : Nat) (p0 : Int32) (p1 : Int32) (p2 : Int32) (eo : isO shM o 7 = true) (h : Hp) {r : Int32} {h' : Hp} (e : F_X7_sheet o p0 p1 p2 h = some (r, h')) : Ctr E shM yX7_sheet cX7_sheet 5 (some .int) 3 [.ref (E.2.2.2 + o), .int p0, .int p1, .int p2] h (vi r) h' := by
  refine Ctr.ofG (val := vi) e (by decide) (Nat.le_of_ble_eq_true rfl) [some (.ref (E.2.2.2 + o)), some (.int p0), some (.int p1), some (.int p2), none] rfl (fun X C => ?_)
  unfold F_X7_sheet
  refine g_aload_n (i := 0) C dX7_sheet_0 rfl rfl ?_
  refine g_iconst (v := 0) C dX7_sheet_1 (by decide) ?_
  refine g_putI C f_X7_73 eo dX7_sheet_2 (fun h1 => ?_)
  refine g_iload_n (i := 1) C dX7_sheet_5 rfl rfl ?_
  refine g_cSi1 C cf_X7_95 aw_30 (fun r h' e => c_X7_isSheet E p0 h1 e) (by decide) (by decide) (Nat.le_of_ble_eq_true rfl) dX7_sheet_6 (fun r3 h2 _ => ?_)
  refine g_if_ne C 14 dX7_sheet_9 (by decide) (fun hc23 => ?_) (fun hc23 => ?_)
  · refine g_iconst (v := -1) C dX7_sheet_12 (by decide) ?_
    exact g_ireti C dX7_sheet_13
  · refine g_iload_n (i := 2) C dX7_sheet_14 rfl rfl ?_
    refine g_cSi1 C cf_X7_99 aw_29 (fun r h' e => c_X7_isSort E p1 h2 e) (by decide) (by decide) (Nat.le_of_ble_eq_true rfl) dX7_sheet_15 (fun r5 h4 _ => ?_)
    refine g_if_eq C 27 dX7_sheet_18 (by decide) (fun hc22 => ?_) (fun hc22 => ?_)
    · refine g_bipush (v := -2) C dX7_sheet_27 (by decide) ?_
      exact g_ireti C dX7_sheet_29
    · refine g_iload_n (i := 3) C dX7_sheet_21 rfl rfl ?_
      refine g_bipush (v := 60) C dX7_sheet_22 (by decide) ?_
      refine g_icmp_le C 30 dX7_sheet_24 (by decide) (fun hc21 => ?_) (fun hc21 => ?_)
      · refine g_iload_n (i := 3) C dX7_sheet_30 rfl rfl ?_
        refine g_if_ge C 40 dX7_sheet_31 (by decide) (fun hc20 => ?_) (fun hc20 => ?_)
        · refine g_aload_n (i := 0) C dX7_sheet_40 rfl rfl ?_
          refine g_getA C f_X7_9 eo dX7_sheet_41 (fun q6 _ => ?_)
          refine g_iload_n (i := 1) C dX7_sheet_44 rfl rfl ?_
          refine g_iload_n (i := 2) C dX7_sheet_45 rfl rfl ?_
          refine g_iast C dX7_sheet_46 (fun h7 => ?_)
          refine g_aload_n (i := 0) C dX7_sheet_47 rfl rfl ?_
          refine g_getA C f_X7_13 eo dX7_sheet_48 (fun q8 _ => ?_)
          refine g_iload_n (i := 1) C dX7_sheet_51 rfl rfl ?_
          refine g_iload_n (i := 3) C dX7_sheet_52 rfl rfl ?_
          refine g_iast C dX7_sheet_53 (fun h9 => ?_)
          refine g_iconst (v := 0) C dX7_sheet_54 (by decide) ?_
          refine g_istore (i := 4) C [some (.ref (E.2.2.2 + o)), some (.int p0), some (.int p1), some (.int p2), some (.int (0 : Int32))] dX7_sheet_55 (by decide) rfl rfl ?_
          refine g_drop (i := 2) [some (.ref (E.2.2.2 + o)), some (.int p0), none, some (.int p2), some (.int (0 : Int32))] rfl ?_
          refine g_drop (i := 3) [some (.ref (E.2.2.2 + o)), some (.int p0), none, none, some (.int (0 : Int32))] rfl ?_
          exact G_F_X7_sheet_L57 C o p0 eo FU (0 : Int32) h9
        · refine g_aload_n (i := 0) C dX7_sheet_34 rfl rfl ?_
          refine g_iconst (v := 4) C dX7_sheet_35 (by decide) ?_
          refine g_cVi1 C cf_X7_106 cv_X7_fails eo (fun r h' e => c_X7_fails E o (4 : Int32) eo h4 e) (by decide) (by decide) (Nat.le_of_ble_eq_true rfl) dX7_sheet_36 (fun r19 h18 _ => ?_)
          exact g_ireti C dX7_sheet_39
      · refine g_bipush (v := -2) C dX7_sheet_27 (by decide) ?_
        exact g_ireti C dX7_sheet_29
set_option maxHeartbeats 4000000 in
set_option maxRecDepth 100000 in
theorem c_X7_shelve (E : Ev) (o : Nat) (p0 : Int32) (eo : isO shM o 7 = true) (h : Hp) {r : Int32} {h' : Hp} (e : F_X7_shelve o p0 h = some (r, h')) : Ctr E shM yX7_shelve cX7_shelve 3 (some .int) 6 [.ref (E.2.2.2 + o), .int p0] h (vi r) h' := by
  refine Ctr.ofG (val := vi) e (by decide) (Nat.le_of_ble_eq_true rfl) [some (.ref (E.2.2.2 + o)), some (.int p0), none] rfl (fun X C => ?_)
  unfold F_X7_shelve
  refine g_iload_n (i := 1) C dX7_shelve_0 rfl rfl ?_
  refine g_iconst (v := -1) C dX7_shelve_1 (by decide) ?_
  refine g_icmp_ge C 7 dX7_shelve_2 (by decide) (fun hc9 => ?_) (fun hc9 => ?_)
  · refine g_aload_n (i := 0) C dX7_shelve_7 rfl rfl ?_
    refine g_getI C f_X7_89 eo dX7_shelve_8 ?_
    refine g_if_ne C 17 dX7_shelve_11 (by decide) (fun hc8 => ?_) (fun hc8 => ?_)
    · refine g_bipush (v := -3) C dX7_shelve_14 (by decide) ?_
      exact g_ireti C dX7_shelve_16
    · refine g_aload_n (i := 0) C dX7_shelve_17 rfl rfl ?_
      refine g_cVi0 C cf_X7_205 cv_X7_findShelves eo (fun r h' e => c_X7_findShelves E o eo h e) (by decide) (by decide) (Nat.le_of_ble_eq_true rfl) dX7_shelve_18 (fun r2 h1 _ => ?_)
      refine g_istore_n (i := 2) C [some (.ref (E.2.2.2 + o)), some (.int p0), some (.int r2)] dX7_shelve_21 rfl (by decide) rfl rfl ?_
      refine g_iload_n (i := 1) C dX7_shelve_22 rfl rfl ?_
      refine g_iconst (v := -1) C dX7_shelve_23 (by decide) ?_
      refine g_icmp_ne C 31 dX7_shelve_24 (by decide) (fun hc7 => ?_) (fun hc7 => ?_)
      · refine g_iload_n (i := 2) C dX7_shelve_27 rfl rfl ?_
        refine g_goto C 50 dX7_shelve_28 (by decide) ?_
        exact g_ireti C dX7_shelve_50
      · refine g_aload_n (i := 0) C dX7_shelve_31 rfl rfl ?_
        refine g_iload_n (i := 1) C dX7_shelve_32 rfl rfl ?_
        refine g_cVi1 C cf_X7_145 cv_X7_isCheese eo (fun r h' e => c_X7_isCheese E o p0 eo h1 e) (by decide) (by decide) (Nat.le_of_ble_eq_true rfl) dX7_shelve_33 (fun r4 h3 _ => ?_)
        refine g_if_eq C 48 dX7_shelve_36 (by decide) (fun hc6 => ?_) (fun hc6 => ?_)
        · refine g_bipush (v := -9) C dX7_shelve_48 (by decide) ?_
          exact g_ireti C dX7_shelve_50
        · refine g_aload_n (i := 0) C dX7_shelve_39 rfl rfl ?_
          refine g_getA C f_X7_58 eo dX7_shelve_40 (fun q5 _ => ?_)
          refine g_iload_n (i := 1) C dX7_shelve_43 rfl rfl ?_
          refine g_iald C dX7_shelve_44 ?_
          refine g_goto C 50 dX7_shelve_45 (by decide) ?_
          exact g_ireti C dX7_shelve_50
  · refine g_iconst (v := -1) C dX7_shelve_5 (by decide) ?_
    exact g_ireti C dX7_shelve_6
set_option maxHeartbeats 4000000 in
set_option maxRecDepth 100000 in
theorem c_X7_spare (E : Ev) (o : Nat) (p0 : Int32) (p1 : Int32) (p2 : Int32) (eo : isO shM o 7 = true) (h : Hp) {r : Int32} {h' : Hp} (e : F_X7_spare o p0 p1 p2 h = some (r, h')) : Ctr E shM yX7_spare cX7_spare 5 (some .int) 6 [.ref (E.2.2.2 + o), .int p0, .int p1, .int p2] h (vi r) h' := by
  refine Ctr.ofG (val := vi) e (by decide) (Nat.le_of_ble_eq_true rfl) [some (.ref (E.2.2.2 + o)), some (.int p0), some (.int p1), some (.int p2), none] rfl (fun X C => ?_)
  unfold F_X7_spare
  refine g_iload_n (i := 3) C dX7_spare_0 rfl rfl ?_
  refine g_iconst (v := -1) C dX7_spare_1 (by decide) ?_
  refine g_icmp_ge C 7 dX7_spare_2 (by decide) (fun hc16 => ?_) (fun hc16 => ?_)
  · refine g_iload_n (i := 1) C dX7_spare_7 rfl rfl ?_
    refine g_iconst (v := 0) C dX7_spare_8 (by decide) ?_
    refine g_sipush (v := 255) C dX7_spare_9 (by decide) ?_
    refine g_cSi3 C cf_X7_79 aw_27 (fun r h' e => c_X7_within E p0 (0 : Int32) (255 : Int32) h e) (by decide) (by decide) (Nat.le_of_ble_eq_true rfl) dX7_spare_12 (fun r2 h1 _ => ?_)
    refine g_if_eq C 29 dX7_spare_15 (by decide) (fun hc15 => ?_) (fun hc15 => ?_)
    · refine g_bipush (v := -2) C dX7_spare_29 (by decide) ?_
      exact g_ireti C dX7_spare_31
    · refine g_iload_n (i := 2) C dX7_spare_18 rfl rfl ?_
      refine g_iconst (v := 0) C dX7_spare_19 (by decide) ?_
      refine g_sipush (v := 255) C dX7_spare_20 (by decide) ?_
      refine g_cSi3 C cf_X7_79 aw_27 (fun r h' e => c_X7_within E p1 (0 : Int32) (255 : Int32) h1 e) (by decide) (by decide) (Nat.le_of_ble_eq_true rfl) dX7_spare_23 (fun r4 h3 _ => ?_)
      refine g_if_ne C 32 dX7_spare_26 (by decide) (fun hc14 => ?_) (fun hc14 => ?_)
      · refine g_bipush (v := -2) C dX7_spare_29 (by decide) ?_
        exact g_ireti C dX7_spare_31
      · refine g_aload_n (i := 0) C dX7_spare_32 rfl rfl ?_
        refine g_getI C f_X7_89 eo dX7_spare_33 ?_
        refine g_if_ne C 42 dX7_spare_36 (by decide) (fun hc13 => ?_) (fun hc13 => ?_)
        · refine g_bipush (v := -3) C dX7_spare_39 (by decide) ?_
          exact g_ireti C dX7_spare_41
        · refine g_aload_n (i := 0) C dX7_spare_42 rfl rfl ?_
          refine g_iload_n (i := 1) C dX7_spare_43 rfl rfl ?_
          refine g_iload_n (i := 2) C dX7_spare_44 rfl rfl ?_
          refine g_cVi2 C cf_X7_198 cv_X7_findSpare eo (fun r h' e => c_X7_findSpare E o p0 p1 eo h3 e) (by decide) (by decide) (Nat.le_of_ble_eq_true rfl) dX7_spare_45 (fun r6 h5 _ => ?_)
          refine g_istore (i := 4) C [some (.ref (E.2.2.2 + o)), some (.int p0), some (.int p1), some (.int p2), some (.int r6)] dX7_spare_48 (by decide) rfl rfl ?_
          refine g_iload_n (i := 3) C dX7_spare_50 rfl rfl ?_
          refine g_iconst (v := -1) C dX7_spare_51 (by decide) ?_
          refine g_icmp_ne C 60 dX7_spare_52 (by decide) (fun hc12 => ?_) (fun hc12 => ?_)
          · refine g_iload (i := 4) C dX7_spare_55 rfl ?_
            refine g_goto C 86 dX7_spare_57 (by decide) ?_
            exact g_ireti C dX7_spare_86
          · refine g_iload (i := 4) C dX7_spare_60 rfl ?_
            refine g_bipush (v := -9) C dX7_spare_62 (by decide) ?_
            refine g_icmp_eq C 84 dX7_spare_64 (by decide) (fun hc11 => ?_) (fun hc11 => ?_)
            · refine g_bipush (v := -9) C dX7_spare_84 (by decide) ?_
              exact g_ireti C dX7_spare_86
            · refine g_aload_n (i := 0) C dX7_spare_67 rfl rfl ?_
              refine g_iload_n (i := 3) C dX7_spare_68 rfl rfl ?_
              refine g_cVi1 C cf_X7_145 cv_X7_isCheese eo (fun r h' e => c_X7_isCheese E o p2 eo h5 e) (by decide) (by decide) (Nat.le_of_ble_eq_true rfl) dX7_spare_69 (fun r8 h7 _ => ?_)
              refine g_if_eq C 84 dX7_spare_72 (by decide) (fun hc10 => ?_) (fun hc10 => ?_)
              · refine g_bipush (v := -9) C dX7_spare_84 (by decide) ?_
                exact g_ireti C dX7_spare_86
              · refine g_aload_n (i := 0) C dX7_spare_75 rfl rfl ?_
                refine g_getA C f_X7_58 eo dX7_spare_76 (fun q9 _ => ?_)
                refine g_iload_n (i := 3) C dX7_spare_79 rfl rfl ?_
                refine g_iald C dX7_spare_80 ?_
                refine g_goto C 86 dX7_spare_81 (by decide) ?_
                exact g_ireti C dX7_spare_86
  · refine g_iconst (v := -1) C dX7_spare_5 (by decide) ?_
    exact g_ireti C dX7_spare_6
set_option maxHeartbeats 4000000 in
set_option maxRecDepth 100000 in
theorem G_F_X7_tap_J26 {E : Ev} {X : Cx} (C : Ok E X cX7_tap RX7 2 (some .int) 2) (q4 : Nat) (x5 : Int32) (y6 : Int32) (y7 : Nat) (eq4 : isO shM q4 7 = true) (ey7 : isO shM y7 7 = true) (h8 : Hp) : G E shM X vi 26 [some (.ref (E.2.2.2 + q4)), some (.int x5)] [.int y6, .ref (E.2.2.2 + y7)] h8 (F_X7_tap_J26 q4 x5 y6 y7 h8) := by
  unfold F_X7_tap_J26
  refine g_cVv1 C cf_X7_223 cv_X7_begins ey7 (fun r h' e => c_X7_begins E y7 y6 ey7 h8 e) (by decide) (by decide) (Nat.le_of_ble_eq_true rfl) dX7_tap_26 (fun _ h9 _ => ?_)
  refine g_aload_n (i := 0) C dX7_tap_29 rfl rfl ?_
  refine g_getA C f_X7_19 eq4 dX7_tap_30 (fun q10 _ => ?_)
  refine g_iload_n (i := 1) C dX7_tap_33 rfl rfl ?_
  refine g_iald C dX7_tap_34 ?_
  refine g_iconst (v := 2) C dX7_tap_35 (by decide) ?_
  refine g_icmp_ne C 44 dX7_tap_36 (by decide) (fun hc11 => ?_) (fun hc11 => ?_)
  · refine g_bipush (v := 70) C dX7_tap_39 (by decide) ?_
    refine g_goto C 45 dX7_tap_41 (by decide) ?_
    exact g_ireti C dX7_tap_45
  · refine g_iload_n (i := 1) C dX7_tap_44 rfl rfl ?_
    exact g_ireti C dX7_tap_45
set_option maxHeartbeats 4000000 in
set_option maxRecDepth 100000 in
theorem c_X7_tap (E : Ev) (o : Nat) (p0 : Int32) (eo : isO shM o 7 = true) (h : Hp) {r : Int32} {h' : Hp} (e : F_X7_tap o p0 h = some (r, h')) : Ctr E shM yX7_tap cX7_tap 2 (some .int) 2 [.ref (E.2.2.2 + o), .int p0] h (vi r) h' := by
  refine Ctr.ofG (val := vi) e (by decide) (Nat.le_of_ble_eq_true rfl) [some (.ref (E.2.2.2 + o)), some (.int p0)] rfl (fun X C => ?_)
  unfold F_X7_tap
  refine g_aload_n (i := 0) C dX7_tap_0 rfl rfl ?_
  refine g_iload_n (i := 1) C dX7_tap_1 rfl rfl ?_
  refine g_cVi1 C cf_X7_145 cv_X7_isCheese eo (fun r h' e => c_X7_isCheese E o p0 eo h e) (by decide) (by decide) (Nat.le_of_ble_eq_true rfl) dX7_tap_2 (fun r2 h1 _ => ?_)
  refine g_if_ne C 10 dX7_tap_5 (by decide) (fun hc13 => ?_) (fun hc13 => ?_)
  · refine g_iconst (v := -1) C dX7_tap_8 (by decide) ?_
    exact g_ireti C dX7_tap_9
  · refine g_aload_n (i := 0) C dX7_tap_10 rfl rfl ?_
    refine g_aload_n (i := 0) C dX7_tap_11 rfl rfl ?_
    refine g_getA C f_X7_19 eo dX7_tap_12 (fun q3 _ => ?_)
    refine g_iload_n (i := 1) C dX7_tap_15 rfl rfl ?_
    refine g_iald C dX7_tap_16 ?_
    refine g_iconst (v := 2) C dX7_tap_17 (by decide) ?_
    refine g_icmp_ne C 25 dX7_tap_18 (by decide) (fun hc12 => ?_) (fun hc12 => ?_)
    · refine g_iconst (v := 5) C dX7_tap_21 (by decide) ?_
      refine g_goto C 26 dX7_tap_22 (by decide) ?_
      exact G_F_X7_tap_J26 C o p0 (5 : Int32) o eo eo h1
    · refine g_iconst (v := 4) C dX7_tap_25 (by decide) ?_
      exact G_F_X7_tap_J26 C o p0 (4 : Int32) o eo eo h1
set_option maxHeartbeats 4000000 in
set_option maxRecDepth 100000 in
theorem c_X7_tell (E : Ev) (o : Nat) (p0 : Int32) (eo : isO shM o 7 = true) (h : Hp) {r : Int32} {h' : Hp} (e : F_X7_tell o p0 h = some (r, h')) : Ctr E shM yX7_tell cX7_tell 3 (some .int) 2 [.ref (E.2.2.2 + o), .int p0] h (vi r) h' := by
  refine Ctr.ofG (val := vi) e (by decide) (Nat.le_of_ble_eq_true rfl) [some (.ref (E.2.2.2 + o)), some (.int p0), none] rfl (fun X C => ?_)
  unfold F_X7_tell
  refine g_aload_n (i := 0) C dX7_tell_0 rfl rfl ?_
  refine g_iload_n (i := 1) C dX7_tell_1 rfl rfl ?_
  refine g_cVi1 C cf_X7_145 cv_X7_isCheese eo (fun r h' e => c_X7_isCheese E o p0 eo h e) (by decide) (by decide) (Nat.le_of_ble_eq_true rfl) dX7_tell_2 (fun r2 h1 _ => ?_)
  refine g_if_ne C 10 dX7_tell_5 (by decide) (fun hc13 => ?_) (fun hc13 => ?_)
  · refine g_iconst (v := -1) C dX7_tell_8 (by decide) ?_
    exact g_ireti C dX7_tell_9
  · refine g_aload_n (i := 0) C dX7_tell_10 rfl rfl ?_
    refine g_getA C f_X7_25 eo dX7_tell_11 (fun q3 _ => ?_)
    refine g_iload_n (i := 1) C dX7_tell_14 rfl rfl ?_
    refine g_iald C dX7_tell_15 ?_
    refine g_topi (fun x4 => ?_)
    refine g_istore_n (i := 2) C [some (.ref (E.2.2.2 + o)), some (.int p0), some (.int x4)] dX7_tell_16 rfl (by decide) rfl rfl ?_
    refine g_aload_n (i := 0) C dX7_tell_17 rfl rfl ?_
    refine g_getA C f_X7_19 eo dX7_tell_18 (fun q5 _ => ?_)
    refine g_iload_n (i := 1) C dX7_tell_21 rfl rfl ?_
    refine g_iald C dX7_tell_22 ?_
    refine g_if (fun hs23_0 => ?_) (fun hs23_0 => ?_)
    · refine g_lookup C 48 (off := 25) dX7_tell_23 (by decide) (by rw [hs23_0]; rfl) (by decide) ?_
      refine g_aload_n (i := 0) C dX7_tell_48 rfl rfl ?_
      refine g_iconst (v := 2) C dX7_tell_49 (by decide) ?_
      refine g_cVv1 C cf_X7_223 cv_X7_begins eo (fun r h' e => c_X7_begins E o (2 : Int32) eo h1 e) (by decide) (by decide) (Nat.le_of_ble_eq_true rfl) dX7_tell_50 (fun _ h6 _ => ?_)
      refine g_aload_n (i := 0) C dX7_tell_53 rfl rfl ?_
      refine g_iconst (v := 1) C dX7_tell_54 (by decide) ?_
      refine g_cVv1 C cf_X7_223 cv_X7_begins eo (fun r h' e => c_X7_begins E o (1 : Int32) eo h6 e) (by decide) (by decide) (Nat.le_of_ble_eq_true rfl) dX7_tell_55 (fun _ h7 _ => ?_)
      refine g_iload_n (i := 2) C dX7_tell_58 rfl rfl ?_
      refine g_bipush (v := 100) C dX7_tell_59 (by decide) ?_
      refine g_iadd C dX7_tell_61 ?_
      exact g_ireti C dX7_tell_62
    · refine g_if (fun hs23_1 => ?_) (fun hs23_1 => ?_)
      · refine g_lookup C 63 (off := 40) dX7_tell_23 (by decide) (by rw [hs23_1]; rfl) (by decide) ?_
        refine g_aload_n (i := 0) C dX7_tell_63 rfl rfl ?_
        refine g_iconst (v := 3) C dX7_tell_64 (by decide) ?_
        refine g_cVv1 C cf_X7_223 cv_X7_begins eo (fun r h' e => c_X7_begins E o (3 : Int32) eo h1 e) (by decide) (by decide) (Nat.le_of_ble_eq_true rfl) dX7_tell_65 (fun _ h8 _ => ?_)
        refine g_aload_n (i := 0) C dX7_tell_68 rfl rfl ?_
        refine g_iconst (v := 2) C dX7_tell_69 (by decide) ?_
        refine g_cVv1 C cf_X7_223 cv_X7_begins eo (fun r h' e => c_X7_begins E o (2 : Int32) eo h8 e) (by decide) (by decide) (Nat.le_of_ble_eq_true rfl) dX7_tell_70 (fun _ h9 _ => ?_)
        refine g_aload_n (i := 0) C dX7_tell_73 rfl rfl ?_
        refine g_iconst (v := 1) C dX7_tell_74 (by decide) ?_
        refine g_cVv1 C cf_X7_223 cv_X7_begins eo (fun r h' e => c_X7_begins E o (1 : Int32) eo h9 e) (by decide) (by decide) (Nat.le_of_ble_eq_true rfl) dX7_tell_75 (fun _ h10 _ => ?_)
        refine g_aload_n (i := 0) C dX7_tell_78 rfl rfl ?_
        refine g_iconst (v := 1) C dX7_tell_79 (by decide) ?_
        refine g_cVv1 C cf_X7_223 cv_X7_begins eo (fun r h' e => c_X7_begins E o (1 : Int32) eo h10 e) (by decide) (by decide) (Nat.le_of_ble_eq_true rfl) dX7_tell_80 (fun _ h11 _ => ?_)
        refine g_iconst (v := 2) C dX7_tell_83 (by decide) ?_
        refine g_iload_n (i := 2) C dX7_tell_84 rfl rfl ?_
        refine g_imul C dX7_tell_85 ?_
        refine g_bipush (v := 100) C dX7_tell_86 (by decide) ?_
        refine g_iadd C dX7_tell_88 ?_
        exact g_ireti C dX7_tell_89
      · refine g_lookup C 90 (off := 67) dX7_tell_23 (by decide) (by rw [lv_osw (k := 1) hs23_0 (by decide), lv_osw (k := 2) hs23_1 (by decide)]; rfl) (by decide) ?_
        refine g_aload_n (i := 0) C dX7_tell_90 rfl rfl ?_
        refine g_iconst (v := 1) C dX7_tell_91 (by decide) ?_
        refine g_cVv1 C cf_X7_223 cv_X7_begins eo (fun r h' e => c_X7_begins E o (1 : Int32) eo h1 e) (by decide) (by decide) (Nat.le_of_ble_eq_true rfl) dX7_tell_92 (fun _ h12 _ => ?_)
        refine g_iload_n (i := 2) C dX7_tell_95 rfl rfl ?_
        exact g_ireti C dX7_tell_96
set_option maxHeartbeats 4000000 in
set_option maxRecDepth 100000 in
theorem c_X7_trace (E : Ev) (o : Nat) (eo : isO shM o 7 = true) (h : Hp) {r : Int32} {h' : Hp} (e : F_X7_trace o h = some (r, h')) : Ctr E shM yX7_trace cX7_trace 1 (some .int) 1 [.ref (E.2.2.2 + o)] h (vi r) h' := by
  refine Ctr.ofG (val := vi) e (by decide) (Nat.le_of_ble_eq_true rfl) [some (.ref (E.2.2.2 + o))] rfl (fun X C => ?_)
  unfold F_X7_trace
  refine g_aload_n (i := 0) C dX7_trace_0 rfl rfl ?_
  refine g_getI C f_X7_220 eo dX7_trace_1 ?_
  exact g_ireti C dX7_trace_4
set_option maxHeartbeats 4000000 in
set_option maxRecDepth 100000 in
theorem c_X7_undo (E : Ev) (o : Nat) (p0 : Int32) (eo : isO shM o 7 = true) (h : Hp) {r : Int32} {h' : Hp} (e : F_X7_undo o p0 h = some (r, h')) : Ctr E shM yX7_undo cX7_undo 2 (some .int) 2 [.ref (E.2.2.2 + o), .int p0] h (vi r) h' := by
  refine Ctr.ofG (val := vi) e (by decide) (Nat.le_of_ble_eq_true rfl) [some (.ref (E.2.2.2 + o)), some (.int p0)] rfl (fun X C => ?_)
  unfold F_X7_undo
  refine g_iload_n (i := 1) C dX7_undo_0 rfl rfl ?_
  refine g_iconst (v := 0) C dX7_undo_1 (by decide) ?_
  refine g_aload_n (i := 0) C dX7_undo_2 rfl rfl ?_
  refine g_getI C f_X7_125 eo dX7_undo_3 ?_
  refine g_cSi3 C cf_X7_79 aw_27 (fun r h' e => c_X7_within E p0 (0 : Int32) (h.1 o 15) h e) (by decide) (by decide) (Nat.le_of_ble_eq_true rfl) dX7_undo_6 (fun r2 h1 _ => ?_)
  refine g_if_ne C 15 dX7_undo_9 (by decide) (fun hc4 => ?_) (fun hc4 => ?_)
  · refine g_bipush (v := -2) C dX7_undo_12 (by decide) ?_
    exact g_ireti C dX7_undo_14
  · refine g_aload_n (i := 0) C dX7_undo_15 rfl rfl ?_
    refine g_dup C dX7_undo_16 rfl ?_
    refine g_getI C f_X7_125 eo dX7_undo_17 ?_
    refine g_iload_n (i := 1) C dX7_undo_20 rfl rfl ?_
    refine g_isub C dX7_undo_21 ?_
    refine g_putI C f_X7_125 eo dX7_undo_22 (fun h3 => ?_)
    refine g_aload_n (i := 0) C dX7_undo_25 rfl rfl ?_
    refine g_getI C f_X7_125 eo dX7_undo_26 ?_
    exact g_ireti C dX7_undo_29
set_option maxHeartbeats 4000000 in
set_option maxRecDepth 100000 in
theorem G_F_X7_wall_J26 {E : Ev} {X : Cx} (C : Ok E X cX7_wall RX7 4 (some .int) 3) (q3 : Nat) (x4 : Int32) (x5 : Int32) (eq3 : isO shM q3 7 = true) (h6 : Hp) : G E shM X vi 26 [some (.ref (E.2.2.2 + q3)), some (.int x4), some (.int x5), none] [] h6 (F_X7_wall_J26 q3 x4 x5 h6) := by
  unfold F_X7_wall_J26
  refine g_aload_n (i := 0) C dX7_wall_26 rfl rfl ?_
  refine g_getA C f_X7_28 eq3 dX7_wall_27 (fun q7 _ => ?_)
  refine g_iload_n (i := 1) C dX7_wall_30 rfl rfl ?_
  refine g_iald C dX7_wall_31 ?_
  refine g_topi (fun x8 => ?_)
  refine g_istore_n (i := 3) C [some (.ref (E.2.2.2 + q3)), some (.int x4), some (.int x5), some (.int x8)] dX7_wall_32 rfl (by decide) rfl rfl ?_
  refine g_aload_n (i := 0) C dX7_wall_33 rfl rfl ?_
  refine g_getA C f_X7_28 eq3 dX7_wall_34 (fun q9 _ => ?_)
  refine g_iload_n (i := 1) C dX7_wall_37 rfl rfl ?_
  refine g_iload_n (i := 2) C dX7_wall_38 rfl rfl ?_
  refine g_iast C dX7_wall_39 (fun h10 => ?_)
  refine g_iload_n (i := 3) C dX7_wall_40 rfl rfl ?_
  exact g_ireti C dX7_wall_41
set_option maxHeartbeats 4000000 in
set_option maxRecDepth 100000 in
theorem c_X7_wall (E : Ev) (o : Nat) (p0 : Int32) (p1 : Int32) (eo : isO shM o 7 = true) (h : Hp) {r : Int32} {h' : Hp} (e : F_X7_wall o p0 p1 h = some (r, h')) : Ctr E shM yX7_wall cX7_wall 4 (some .int) 3 [.ref (E.2.2.2 + o), .int p0, .int p1] h (vi r) h' := by
  refine Ctr.ofG (val := vi) e (by decide) (Nat.le_of_ble_eq_true rfl) [some (.ref (E.2.2.2 + o)), some (.int p0), some (.int p1), none] rfl (fun X C => ?_)
  unfold F_X7_wall
  refine g_aload_n (i := 0) C dX7_wall_0 rfl rfl ?_
  refine g_iload_n (i := 1) C dX7_wall_1 rfl rfl ?_
  refine g_cVi1 C cf_X7_145 cv_X7_isCheese eo (fun r h' e => c_X7_isCheese E o p0 eo h e) (by decide) (by decide) (Nat.le_of_ble_eq_true rfl) dX7_wall_2 (fun r2 h1 _ => ?_)
  refine g_if_ne C 10 dX7_wall_5 (by decide) (fun hc15 => ?_) (fun hc15 => ?_)
  · refine g_iconst (v := -1) C dX7_wall_8 (by decide) ?_
    exact g_ireti C dX7_wall_9
  · refine g_iload_n (i := 2) C dX7_wall_10 rfl rfl ?_
    refine g_bipush (v := -9) C dX7_wall_11 (by decide) ?_
    refine g_icmp_eq C 26 dX7_wall_13 (by decide) (fun hc14 => ?_) (fun hc14 => ?_)
    · exact G_F_X7_wall_J26 C o p0 p1 eo h1
    · refine g_iload_n (i := 2) C dX7_wall_16 rfl rfl ?_
      refine g_cSi1 C cf_X7_154 aw_32 (fun r h' e => c_X7_isDay E p1 h1 e) (by decide) (by decide) (Nat.le_of_ble_eq_true rfl) dX7_wall_17 (fun r12 h11 _ => ?_)
      refine g_if_ne C 26 dX7_wall_20 (by decide) (fun hc13 => ?_) (fun hc13 => ?_)
      · refine g_bipush (v := -2) C dX7_wall_23 (by decide) ?_
        exact g_ireti C dX7_wall_25
      · exact G_F_X7_wall_J26 C o p0 p1 eo h11
set_option maxHeartbeats 4000000 in
set_option maxRecDepth 100000 in
theorem c_X7_where (E : Ev) (o : Nat) (p0 : Int32) (p1 : Int32) (eo : isO shM o 7 = true) (h : Hp) {r : Int32} {h' : Hp} (e : F_X7_where o p0 p1 h = some (r, h')) : Ctr E shM yX7_where cX7_where 3 (some .int) 3 [.ref (E.2.2.2 + o), .int p0, .int p1] h (vi r) h' := by
  refine Ctr.ofG (val := vi) e (by decide) (Nat.le_of_ble_eq_true rfl) [some (.ref (E.2.2.2 + o)), some (.int p0), some (.int p1)] rfl (fun X C => ?_)
  unfold F_X7_where
  refine g_aload_n (i := 0) C dX7_where_0 rfl rfl ?_
  refine g_iload_n (i := 1) C dX7_where_1 rfl rfl ?_
  refine g_cVi1 C cf_X7_145 cv_X7_isCheese eo (fun r h' e => c_X7_isCheese E o p0 eo h e) (by decide) (by decide) (Nat.le_of_ble_eq_true rfl) dX7_where_2 (fun r2 h1 _ => ?_)
  refine g_if_ne C 10 dX7_where_5 (by decide) (fun hc8 => ?_) (fun hc8 => ?_)
  · refine g_iconst (v := -1) C dX7_where_8 (by decide) ?_
    exact g_ireti C dX7_where_9
  · refine g_iload_n (i := 2) C dX7_where_10 rfl rfl ?_
    refine g_cSi1 C cf_X7_154 aw_32 (fun r h' e => c_X7_isDay E p1 h1 e) (by decide) (by decide) (Nat.le_of_ble_eq_true rfl) dX7_where_11 (fun r4 h3 _ => ?_)
    refine g_if_eq C 26 dX7_where_14 (by decide) (fun hc7 => ?_) (fun hc7 => ?_)
    · refine g_bipush (v := -2) C dX7_where_26 (by decide) ?_
      exact g_ireti C dX7_where_28
    · refine g_aload_n (i := 0) C dX7_where_17 rfl rfl ?_
      refine g_iload_n (i := 1) C dX7_where_18 rfl rfl ?_
      refine g_iload_n (i := 2) C dX7_where_19 rfl rfl ?_
      refine g_cVi2 C cf_X7_157 cv_X7_whereOf eo (fun r h' e => c_X7_whereOf E o p0 p1 eo h3 e) (by decide) (by decide) (Nat.le_of_ble_eq_true rfl) dX7_where_20 (fun r6 h5 _ => ?_)
      refine g_goto C 28 dX7_where_23 (by decide) ?_
      exact g_ireti C dX7_where_28
set_option maxHeartbeats 4000000 in
set_option maxRecDepth 100000 in
theorem G_F_X7_words_L22 {E : Ev} {X : Cx} (C : Ok E X cX7_words RX7 5 (some .int) 5) (q5 : Nat) (x6 : Int32) (x7 : Int32) (eq5 : isO shM q5 7 = true) : ∀ (N : Nat) (x8 : Int32) (x9 : Int32) (h10 : Hp), G E shM X vi 22 [some (.ref (E.2.2.2 + q5)), some (.int x6), some (.int x7), some (.int x8), some (.int x9)] [] h10 (F_X7_words_L22 q5 x6 x7 N x8 x9 h10) := by
  intro N
  induction N with
  | zero =>
    intro _ _ _
    exact g_none
  | succ N ih =>
    intro x8 x9 h10
    rw [F_X7_words_L22]
    refine g_iload (i := 4) C dX7_words_22 rfl ?_
    refine g_bipush (v := 8) C dX7_words_24 (by decide) ?_
    refine g_icmp_ge C 61 dX7_words_26 (by decide) (fun hc22 => ?_) (fun hc22 => ?_)
    · refine g_aload_n (i := 0) C dX7_words_61 rfl rfl ?_
      refine g_getA C f_X7_37 eq5 dX7_words_62 (fun q11 _ => ?_)
      refine g_iload_n (i := 1) C dX7_words_65 rfl rfl ?_
      refine g_iload_n (i := 2) C dX7_words_66 rfl rfl ?_
      refine g_iast C dX7_words_67 (fun h12 => ?_)
      refine g_iload_n (i := 3) C dX7_words_68 rfl rfl ?_
      exact g_ireti C dX7_words_69
    · refine g_aload_n (i := 0) C dX7_words_29 rfl rfl ?_
      refine g_getA C f_X7_37 eq5 dX7_words_30 (fun q13 _ => ?_)
      refine g_iload_n (i := 1) C dX7_words_33 rfl rfl ?_
      refine g_iload (i := 4) C dX7_words_34 rfl ?_
      refine g_iast C dX7_words_36 (fun h14 => ?_)
      refine g_iload_n (i := 3) C dX7_words_37 rfl rfl ?_
      refine g_aload_n (i := 0) C dX7_words_38 rfl rfl ?_
      refine g_cVi0 C cf_X7_208 cv_X7_areSo eq5 (fun r h' e => c_X7_areSo E q5 eq5 h14 e) (by decide) (by decide) (Nat.le_of_ble_eq_true rfl) dX7_words_39 (fun r16 h15 _ => ?_)
      refine g_if_eq C 52 dX7_words_42 (by decide) (fun hc21 => ?_) (fun hc21 => ?_)
      · refine g_iconst (v := 0) C dX7_words_52 (by decide) ?_
        refine g_ior C dX7_words_53 ?_
        refine g_topi (fun x17 => ?_)
        refine g_istore_n (i := 3) C [some (.ref (E.2.2.2 + q5)), some (.int x6), some (.int x7), some (.int x17), some (.int x9)] dX7_words_54 rfl (by decide) rfl rfl ?_
        refine g_iinc (i := 4) (w := 1) C (fun yy => [some (.ref (E.2.2.2 + q5)), some (.int x6), some (.int x7), some (.int x17), some (.int yy)]) dX7_words_55 rfl (by decide) rfl (by decide) rfl (fun _ => rfl) (fun x18 => ?_)
        refine g_goto C 22 dX7_words_58 (by decide) ?_
        exact ih x17 x18 h15
      · refine g_iconst (v := 1) C dX7_words_45 (by decide) ?_
        refine g_iload (i := 4) C dX7_words_46 rfl ?_
        refine g_ishl C dX7_words_48 ?_
        refine g_goto C 53 dX7_words_49 (by decide) ?_
        refine g_ior C dX7_words_53 ?_
        refine g_topi (fun x19 => ?_)
        refine g_istore_n (i := 3) C [some (.ref (E.2.2.2 + q5)), some (.int x6), some (.int x7), some (.int x19), some (.int x9)] dX7_words_54 rfl (by decide) rfl rfl ?_
        refine g_iinc (i := 4) (w := 1) C (fun yy => [some (.ref (E.2.2.2 + q5)), some (.int x6), some (.int x7), some (.int x19), some (.int yy)]) dX7_words_55 rfl (by decide) rfl (by decide) rfl (fun _ => rfl) (fun x20 => ?_)
        refine g_goto C 22 dX7_words_58 (by decide) ?_
        exact ih x19 x20 h15
set_option maxHeartbeats 4000000 in
set_option maxRecDepth 100000 in
theorem c_X7_words (E : Ev) (o : Nat) (p0 : Int32) (eo : isO shM o 7 = true) (h : Hp) {r : Int32} {h' : Hp} (e : F_X7_words o p0 h = some (r, h')) : Ctr E shM yX7_words cX7_words 5 (some .int) 5 [.ref (E.2.2.2 + o), .int p0] h (vi r) h' := by
  refine Ctr.ofG (val := vi) e (by decide) (Nat.le_of_ble_eq_true rfl) [some (.ref (E.2.2.2 + o)), some (.int p0), none, none, none] rfl (fun X C => ?_)
  unfold F_X7_words
  refine g_aload_n (i := 0) C dX7_words_0 rfl rfl ?_
  refine g_iload_n (i := 1) C dX7_words_1 rfl rfl ?_
  refine g_cVi1 C cf_X7_148 cv_X7_isTalk eo (fun r h' e => c_X7_isTalk E o p0 eo h e) (by decide) (by decide) (Nat.le_of_ble_eq_true rfl) dX7_words_2 (fun r2 h1 _ => ?_)
  refine g_if_ne C 10 dX7_words_5 (by decide) (fun hc23 => ?_) (fun hc23 => ?_)
  · refine g_iconst (v := -1) C dX7_words_8 (by decide) ?_
    exact g_ireti C dX7_words_9
  · refine g_aload_n (i := 0) C dX7_words_10 rfl rfl ?_
    refine g_getA C f_X7_37 eo dX7_words_11 (fun q3 _ => ?_)
    refine g_iload_n (i := 1) C dX7_words_14 rfl rfl ?_
    refine g_iald C dX7_words_15 ?_
    refine g_topi (fun x4 => ?_)
    refine g_istore_n (i := 2) C [some (.ref (E.2.2.2 + o)), some (.int p0), some (.int x4), none, none] dX7_words_16 rfl (by decide) rfl rfl ?_
    refine g_iconst (v := 0) C dX7_words_17 (by decide) ?_
    refine g_istore_n (i := 3) C [some (.ref (E.2.2.2 + o)), some (.int p0), some (.int x4), some (.int (0 : Int32)), none] dX7_words_18 rfl (by decide) rfl rfl ?_
    refine g_iconst (v := 0) C dX7_words_19 (by decide) ?_
    refine g_istore (i := 4) C [some (.ref (E.2.2.2 + o)), some (.int p0), some (.int x4), some (.int (0 : Int32)), some (.int (0 : Int32))] dX7_words_20 (by decide) rfl rfl ?_
    exact G_F_X7_words_L22 C o p0 x4 eo FU (0 : Int32) (0 : Int32) h1
