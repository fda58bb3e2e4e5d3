set_option maxHeartbeats 4000000 in
set_option maxRecDepth 100000 in
theorem c_J6_bitCount_0f7a4 (E : Ev) (p0 : Int32) (h : Hp) {r : Int32} {h' : Hp} (e : F_J6_bitCount_0f7a4 p0 h = some (r, h')) : Ctr E shC yJ6_bitCount_0f7a4 cJ6_bitCount_0f7a4 1 (some .int) 1 [.int p0] h (vi r) h' := by
  refine Ctr.ofG (val := vi) e (by decide) (Nat.le_of_ble_eq_true rfl) [some (.int p0)] rfl (fun X C => ?_)
  unfold F_J6_bitCount_0f7a4
  refine g_iload_n (i := 0) C dJ6_bitCount_0f7a4_0 rfl rfl ?_
  refine g_iload_n (i := 0) C dJ6_bitCount_0f7a4_1 rfl rfl ?_
  refine g_iconst (v := 1) C dJ6_bitCount_0f7a4_2 (by decide) ?_
  refine g_iushr C dJ6_bitCount_0f7a4_3 ?_
  refine g_ldcw (v := 1431655765) C dJ6_bitCount_0f7a4_4 aw_0 ?_
  refine g_iand C dJ6_bitCount_0f7a4_7 ?_
  refine g_isub C dJ6_bitCount_0f7a4_8 ?_
  refine g_topi (fun x1 => ?_)
  refine g_istore_n (i := 0) C [some (.int x1)] dJ6_bitCount_0f7a4_9 rfl (by decide) rfl rfl ?_
  refine g_iload_n (i := 0) C dJ6_bitCount_0f7a4_10 rfl rfl ?_
  refine g_ldcw (v := 858993459) C dJ6_bitCount_0f7a4_11 aw_1 ?_
  refine g_iand C dJ6_bitCount_0f7a4_14 ?_
  refine g_iload_n (i := 0) C dJ6_bitCount_0f7a4_15 rfl rfl ?_
  refine g_iconst (v := 2) C dJ6_bitCount_0f7a4_16 (by decide) ?_
  refine g_iushr C dJ6_bitCount_0f7a4_17 ?_
  refine g_ldcw (v := 858993459) C dJ6_bitCount_0f7a4_18 aw_1 ?_
  refine g_iand C dJ6_bitCount_0f7a4_21 ?_
  refine g_iadd C dJ6_bitCount_0f7a4_22 ?_
  refine g_topi (fun x2 => ?_)
  refine g_istore_n (i := 0) C [some (.int x2)] dJ6_bitCount_0f7a4_23 rfl (by decide) rfl rfl ?_
  refine g_iload_n (i := 0) C dJ6_bitCount_0f7a4_24 rfl rfl ?_
  refine g_iload_n (i := 0) C dJ6_bitCount_0f7a4_25 rfl rfl ?_
  refine g_iconst (v := 4) C dJ6_bitCount_0f7a4_26 (by decide) ?_
  refine g_iushr C dJ6_bitCount_0f7a4_27 ?_
  refine g_iadd C dJ6_bitCount_0f7a4_28 ?_
  refine g_ldcw (v := 252645135) C dJ6_bitCount_0f7a4_29 aw_2 ?_
  refine g_iand C dJ6_bitCount_0f7a4_32 ?_
  refine g_topi (fun x3 => ?_)
  refine g_istore_n (i := 0) C [some (.int x3)] dJ6_bitCount_0f7a4_33 rfl (by decide) rfl rfl ?_
  refine g_iload_n (i := 0) C dJ6_bitCount_0f7a4_34 rfl rfl ?_
  refine g_iload_n (i := 0) C dJ6_bitCount_0f7a4_35 rfl rfl ?_
  refine g_bipush (v := 8) C dJ6_bitCount_0f7a4_36 (by decide) ?_
  refine g_iushr C dJ6_bitCount_0f7a4_38 ?_
  refine g_iadd C dJ6_bitCount_0f7a4_39 ?_
  refine g_topi (fun x4 => ?_)
  refine g_istore_n (i := 0) C [some (.int x4)] dJ6_bitCount_0f7a4_40 rfl (by decide) rfl rfl ?_
  refine g_iload_n (i := 0) C dJ6_bitCount_0f7a4_41 rfl rfl ?_
  refine g_iload_n (i := 0) C dJ6_bitCount_0f7a4_42 rfl rfl ?_
  refine g_bipush (v := 16) C dJ6_bitCount_0f7a4_43 (by decide) ?_
  refine g_iushr C dJ6_bitCount_0f7a4_45 ?_
  refine g_iadd C dJ6_bitCount_0f7a4_46 ?_
  refine g_topi (fun x5 => ?_)
  refine g_istore_n (i := 0) C [some (.int x5)] dJ6_bitCount_0f7a4_47 rfl (by decide) rfl rfl ?_
  refine g_iload_n (i := 0) C dJ6_bitCount_0f7a4_48 rfl rfl ?_
  refine g_bipush (v := 63) C dJ6_bitCount_0f7a4_49 (by decide) ?_
  refine g_iand C dJ6_bitCount_0f7a4_51 ?_
  exact g_ireti C dJ6_bitCount_0f7a4_52
set_option maxHeartbeats 4000000 in
set_option maxRecDepth 100000 in
theorem G_F_J7_fill_53178_L5 {E : Ev} {X : Cx} (C : Ok E X cJ7_fill_53178 RJ7 4 none 1) (q3 : Nat) (x4 : Int32) (x5 : Int32) : ∀ (N : Nat) (x6 : Int32) (h7 : Hp), G E shC X vv 5 [some (.ref (E.2.2.2 + q3)), some (.int x4), some (.int x6), some (.int x5)] [] h7 (F_J7_fill_53178_L5 q3 x4 x5 N x6 h7) := by
  intro N
  induction N with
  | zero =>
    intro _ _
    exact g_none
  | succ N ih =>
    intro x6 h7
    rw [F_J7_fill_53178_L5]
    refine g_iload_n (i := 2) C dJ7_fill_53178_5 rfl rfl ?_
    refine g_iload_n (i := 3) C dJ7_fill_53178_6 rfl rfl ?_
    refine g_icmp_ge C 20 dJ7_fill_53178_7 (by decide) (fun hc10 => ?_) (fun hc10 => ?_)
    · exact g_vret C dJ7_fill_53178_20
    · refine g_aload_n (i := 0) C dJ7_fill_53178_10 rfl rfl ?_
      refine g_iload_n (i := 2) C dJ7_fill_53178_11 rfl rfl ?_
      refine g_iload_n (i := 1) C dJ7_fill_53178_12 rfl rfl ?_
      refine g_iast C dJ7_fill_53178_13 (fun h8 => ?_)
      refine g_iinc (i := 2) (w := 1) C (fun yy => [some (.ref (E.2.2.2 + q3)), some (.int x4), some (.int yy), some (.int x5)]) dJ7_fill_53178_14 rfl (by decide) rfl (by decide) rfl (fun _ => rfl) (fun x9 => ?_)
      refine g_goto C 5 dJ7_fill_53178_17 (by decide) ?_
      exact ih x9 h8
set_option maxHeartbeats 4000000 in
set_option maxRecDepth 100000 in
theorem c_J7_fill_53178 (E : Ev) (p0 : Nat) (p1 : Int32) (h : Hp) {r : Unit} {h' : Hp} (e : F_J7_fill_53178 p0 p1 h = some (r, h')) : Ctr E shC yJ7_fill_53178 cJ7_fill_53178 4 none 1 [.ref (E.2.2.2 + p0), .int p1] h (vv r) h' := by
  refine Ctr.ofG (val := vv) e (by decide) (Nat.le_of_ble_eq_true rfl) [some (.ref (E.2.2.2 + p0)), some (.int p1), none, none] rfl (fun X C => ?_)
  unfold F_J7_fill_53178
  refine g_iconst (v := 0) C dJ7_fill_53178_0 (by decide) ?_
  refine g_istore_n (i := 2) C [some (.ref (E.2.2.2 + p0)), some (.int p1), some (.int (0 : Int32)), none] dJ7_fill_53178_1 rfl (by decide) rfl rfl ?_
  refine g_aload_n (i := 0) C dJ7_fill_53178_2 rfl rfl ?_
  refine g_alen C dJ7_fill_53178_3 (fun n1 _ => ?_)
  refine g_topi (fun x2 => ?_)
  refine g_istore_n (i := 3) C [some (.ref (E.2.2.2 + p0)), some (.int p1), some (.int (0 : Int32)), some (.int x2)] dJ7_fill_53178_4 rfl (by decide) rfl rfl ?_
  exact G_F_J7_fill_53178_L5 C p0 p1 x2 FU (0 : Int32) h
set_option maxHeartbeats 4000000 in
set_option maxRecDepth 100000 in
theorem G_F_X0_begins_J33 {E : Ev} {X : Cx} (C : Ok E X cX0_begins RX0 2 (some .boolean) 1) (q1 : Nat) (x2 : Int32) (eq1 : isO shC q1 0 = true) (h3 : Hp) : G E shC X vi 33 [some (.ref (E.2.2.2 + q1)), some (.int x2)] [] h3 (F_X0_begins_J33 q1 x2 h3) := by
  unfold F_X0_begins_J33
  refine g_iload_n (i := 1) C dX0_begins_33 rfl rfl ?_
  refine g_bipush (v := 59) C dX0_begins_34 (by decide) ?_
  refine g_icmp_ne C 67 dX0_begins_36 (by decide) (fun hc7 => ?_) (fun hc7 => ?_)
  · refine g_aload_n (i := 0) C dX0_begins_39 rfl rfl ?_
    refine g_getI C f_X0_15 eq1 dX0_begins_40 ?_
    refine g_if_le C 67 dX0_begins_43 (by decide) (fun hc6 => ?_) (fun hc6 => ?_)
    · refine g_iconst (v := 0) C dX0_begins_67 (by decide) ?_
      exact g_iretz C rfl dX0_begins_68
    · refine g_aload_n (i := 0) C dX0_begins_46 rfl rfl ?_
      refine g_getI C f_X0_18 eq1 dX0_begins_47 ?_
      refine g_bipush (v := 8) C dX0_begins_50 (by decide) ?_
      refine g_icmp_ge C 67 dX0_begins_52 (by decide) (fun hc5 => ?_) (fun hc5 => ?_)
      · refine g_iconst (v := 0) C dX0_begins_67 (by decide) ?_
        exact g_iretz C rfl dX0_begins_68
      · refine g_aload_n (i := 0) C dX0_begins_55 rfl rfl ?_
        refine g_dup C dX0_begins_56 rfl ?_
        refine g_getI C f_X0_18 eq1 dX0_begins_57 ?_
        refine g_iconst (v := 1) C dX0_begins_60 (by decide) ?_
        refine g_iadd C dX0_begins_61 ?_
        refine g_putI C f_X0_18 eq1 dX0_begins_62 (fun h4 => ?_)
        refine g_iconst (v := 1) C dX0_begins_65 (by decide) ?_
        exact g_iretz C rfl dX0_begins_66
  · refine g_iconst (v := 0) C dX0_begins_67 (by decide) ?_
    exact g_iretz C rfl dX0_begins_68
set_option maxHeartbeats 4000000 in
set_option maxRecDepth 100000 in
theorem c_X0_begins (E : Ev) (o : Nat) (p0 : Int32) (eo : isO shC o 0 = true) (h : Hp) {r : Int32} {h' : Hp} (e : F_X0_begins o p0 h = some (r, h')) : Ctr E shC yX0_begins cX0_begins 2 (some .boolean) 1 [.ref (E.2.2.2 + o), .int p0] h (vi r) h' := by
  refine Ctr.ofG (val := vi) e (by decide) (Nat.le_of_ble_eq_true rfl) [some (.ref (E.2.2.2 + o)), some (.int p0)] rfl (fun X C => ?_)
  unfold F_X0_begins
  refine g_iload_n (i := 1) C dX0_begins_0 rfl rfl ?_
  refine g_bipush (v := 44) C dX0_begins_1 (by decide) ?_
  refine g_icmp_ne C 33 dX0_begins_3 (by decide) (fun hc11 => ?_) (fun hc11 => ?_)
  · refine g_aload_n (i := 0) C dX0_begins_6 rfl rfl ?_
    refine g_getI C f_X0_18 eo dX0_begins_7 ?_
    refine g_if_ne C 33 dX0_begins_10 (by decide) (fun hc10 => ?_) (fun hc10 => ?_)
    · refine g_aload_n (i := 0) C dX0_begins_13 rfl rfl ?_
      refine g_getI C f_X0_15 eo dX0_begins_14 ?_
      refine g_iconst (v := 4) C dX0_begins_17 (by decide) ?_
      refine g_icmp_ge C 33 dX0_begins_18 (by decide) (fun hc9 => ?_) (fun hc9 => ?_)
      · exact G_F_X0_begins_J33 C o p0 eo h
      · refine g_aload_n (i := 0) C dX0_begins_21 rfl rfl ?_
        refine g_dup C dX0_begins_22 rfl ?_
        refine g_getI C f_X0_15 eo dX0_begins_23 ?_
        refine g_iconst (v := 1) C dX0_begins_26 (by decide) ?_
        refine g_iadd C dX0_begins_27 ?_
        refine g_putI C f_X0_15 eo dX0_begins_28 (fun h8 => ?_)
        refine g_iconst (v := 1) C dX0_begins_31 (by decide) ?_
        exact g_iretz C rfl dX0_begins_32
    · exact G_F_X0_begins_J33 C o p0 eo h
  · exact G_F_X0_begins_J33 C o p0 eo h
set_option maxHeartbeats 4000000 in
set_option maxRecDepth 100000 in
theorem G_F_X0_carriedTo_L9 {E : Ev} {X : Cx} (C : Ok E X cX0_carriedTo RX0 6 (some .int) 1) (q1 : Nat) (x2 : Int32) (x3 : Int32) (eq1 : isO shC q1 0 = true) : ∀ (N : Nat) (x4 : Int32) (x5 : Int32) (x6 : Int32) (h7 : Hp), G E shC X vi 9 [some (.ref (E.2.2.2 + q1)), some (.int x2), some (.int x3), some (.int x4), some (.int x5), some (.int x6)] [] h7 (F_X0_carriedTo_L9 q1 x2 x3 N x4 x5 x6 h7) := by
  intro N
  induction N with
  | zero =>
    intro _ _ _ _
    exact g_none
  | succ N ih =>
    intro x4 x5 x6 h7
    rw [F_X0_carriedTo_L9]
    refine g_iload (i := 5) C dX0_carriedTo_9 rfl ?_
    refine g_aload_n (i := 0) C dX0_carriedTo_11 rfl rfl ?_
    refine g_getO C f_X0_46 eq1 dX0_carriedTo_12 (fun q8 _ eq8 => ?_)
    refine g_getI C f_X0_61 eq8 dX0_carriedTo_15 ?_
    refine g_icmp_ge C 92 dX0_carriedTo_18 (by decide) (fun hc28 => ?_) (fun hc28 => ?_)
    · refine g_iload (i := 4) C dX0_carriedTo_92 rfl ?_
      exact g_ireti C dX0_carriedTo_94
    · refine g_aload_n (i := 0) C dX0_carriedTo_21 rfl rfl ?_
      refine g_getO C f_X0_46 eq1 dX0_carriedTo_22 (fun q9 _ eq9 => ?_)
      refine g_getA C f_X0_99 eq9 dX0_carriedTo_25 (fun q10 _ => ?_)
      refine g_iload (i := 5) C dX0_carriedTo_28 rfl ?_
      refine g_iald C dX0_carriedTo_30 ?_
      refine g_iload_n (i := 1) C dX0_carriedTo_31 rfl rfl ?_
      refine g_icmp_ne C 86 dX0_carriedTo_32 (by decide) (fun hc27 => ?_) (fun hc27 => ?_)
      · refine g_aload_n (i := 0) C dX0_carriedTo_35 rfl rfl ?_
        refine g_getO C f_X0_46 eq1 dX0_carriedTo_36 (fun q12 _ eq12 => ?_)
        refine g_getA C f_X0_102 eq12 dX0_carriedTo_39 (fun q13 _ => ?_)
        refine g_iload (i := 5) C dX0_carriedTo_42 rfl ?_
        refine g_iald C dX0_carriedTo_44 ?_
        refine g_iload_n (i := 2) C dX0_carriedTo_45 rfl rfl ?_
        refine g_icmp_gt C 86 dX0_carriedTo_46 (by decide) (fun hc26 => ?_) (fun hc26 => ?_)
        · refine g_iinc (i := 5) (w := 1) C (fun yy => [some (.ref (E.2.2.2 + q1)), some (.int x2), some (.int x3), some (.int x4), some (.int x5), some (.int yy)]) dX0_carriedTo_86 rfl (by decide) rfl (by decide) rfl (fun _ => rfl) (fun x14 => ?_)
          refine g_goto C 9 dX0_carriedTo_89 (by decide) ?_
          exact ih x4 x5 x14 h7
        · refine g_aload_n (i := 0) C dX0_carriedTo_49 rfl rfl ?_
          refine g_getO C f_X0_46 eq1 dX0_carriedTo_50 (fun q15 _ eq15 => ?_)
          refine g_getA C f_X0_102 eq15 dX0_carriedTo_53 (fun q16 _ => ?_)
          refine g_iload (i := 5) C dX0_carriedTo_56 rfl ?_
          refine g_iald C dX0_carriedTo_58 ?_
          refine g_iload_n (i := 3) C dX0_carriedTo_59 rfl rfl ?_
          refine g_icmp_lt C 86 dX0_carriedTo_60 (by decide) (fun hc25 => ?_) (fun hc25 => ?_)
          · refine g_iinc (i := 5) (w := 1) C (fun yy => [some (.ref (E.2.2.2 + q1)), some (.int x2), some (.int x3), some (.int x4), some (.int x5), some (.int yy)]) dX0_carriedTo_86 rfl (by decide) rfl (by decide) rfl (fun _ => rfl) (fun x17 => ?_)
            refine g_goto C 9 dX0_carriedTo_89 (by decide) ?_
            exact ih x4 x5 x17 h7
          · refine g_aload_n (i := 0) C dX0_carriedTo_63 rfl rfl ?_
            refine g_getO C f_X0_46 eq1 dX0_carriedTo_64 (fun q18 _ eq18 => ?_)
            refine g_getA C f_X0_102 eq18 dX0_carriedTo_67 (fun q19 _ => ?_)
            refine g_iload (i := 5) C dX0_carriedTo_70 rfl ?_
            refine g_iald C dX0_carriedTo_72 ?_
            refine g_topi (fun x20 => ?_)
            refine g_istore_n (i := 3) C [some (.ref (E.2.2.2 + q1)), some (.int x2), some (.int x3), some (.int x20), some (.int x5), some (.int x6)] dX0_carriedTo_73 rfl (by decide) rfl rfl ?_
            refine g_aload_n (i := 0) C dX0_carriedTo_74 rfl rfl ?_
            refine g_getO C f_X0_46 eq1 dX0_carriedTo_75 (fun q21 _ eq21 => ?_)
            refine g_getA C f_X0_105 eq21 dX0_carriedTo_78 (fun q22 _ => ?_)
            refine g_iload (i := 5) C dX0_carriedTo_81 rfl ?_
            refine g_iald C dX0_carriedTo_83 ?_
            refine g_topi (fun x23 => ?_)
            refine g_istore (i := 4) C [some (.ref (E.2.2.2 + q1)), some (.int x2), some (.int x3), some (.int x20), some (.int x23), some (.int x6)] dX0_carriedTo_84 (by decide) rfl rfl ?_
            refine g_iinc (i := 5) (w := 1) C (fun yy => [some (.ref (E.2.2.2 + q1)), some (.int x2), some (.int x3), some (.int x20), some (.int x23), some (.int yy)]) dX0_carriedTo_86 rfl (by decide) rfl (by decide) rfl (fun _ => rfl) (fun x24 => ?_)
            refine g_goto C 9 dX0_carriedTo_89 (by decide) ?_
            exact ih x20 x23 x24 h7
      · refine g_iinc (i := 5) (w := 1) C (fun yy => [some (.ref (E.2.2.2 + q1)), some (.int x2), some (.int x3), some (.int x4), some (.int x5), some (.int yy)]) dX0_carriedTo_86 rfl (by decide) rfl (by decide) rfl (fun _ => rfl) (fun x11 => ?_)
        refine g_goto C 9 dX0_carriedTo_89 (by decide) ?_
        exact ih x4 x5 x11 h7
set_option maxHeartbeats 4000000 in
set_option maxRecDepth 100000 in
theorem c_X0_carriedTo (E : Ev) (o : Nat) (p0 : Int32) (p1 : Int32) (eo : isO shC o 0 = true) (h : Hp) {r : Int32} {h' : Hp} (e : F_X0_carriedTo o p0 p1 h = some (r, h')) : Ctr E shC yX0_carriedTo cX0_carriedTo 6 (some .int) 1 [.ref (E.2.2.2 + o), .int p0, .int p1] h (vi r) h' := by
  refine Ctr.ofG (val := vi) e (by decide) (Nat.le_of_ble_eq_true rfl) [some (.ref (E.2.2.2 + o)), some (.int p0), some (.int p1), none, none, none] rfl (fun X C => ?_)
  unfold F_X0_carriedTo
  refine g_iconst (v := 0) C dX0_carriedTo_0 (by decide) ?_
  refine g_istore_n (i := 3) C [some (.ref (E.2.2.2 + o)), some (.int p0), some (.int p1), some (.int (0 : Int32)), none, none] dX0_carriedTo_1 rfl (by decide) rfl rfl ?_
  refine g_bipush (v := -9) C dX0_carriedTo_2 (by decide) ?_
  refine g_istore (i := 4) C [some (.ref (E.2.2.2 + o)), some (.int p0), some (.int p1), some (.int (0 : Int32)), some (.int (-9 : Int32)), none] dX0_carriedTo_4 (by decide) rfl rfl ?_
  refine g_iconst (v := 0) C dX0_carriedTo_6 (by decide) ?_
  refine g_istore (i := 5) C [some (.ref (E.2.2.2 + o)), some (.int p0), some (.int p1), some (.int (0 : Int32)), some (.int (-9 : Int32)), some (.int (0 : Int32))] dX0_carriedTo_7 (by decide) rfl rfl ?_
  exact G_F_X0_carriedTo_L9 C o p0 p1 eo FU (0 : Int32) (-9 : Int32) (0 : Int32) h
set_option maxHeartbeats 4000000 in
set_option maxRecDepth 100000 in
theorem G_F_X0_carry_L12 {E : Ev} {X : Cx} (C : Ok E X cX0_carry RX0 3 none 2) (k38 : Hp → Option (Unit × Hp)) (q4 : Nat) (x5 : Int32) (hk38 : ∀ (hh : Hp), G E shC X vv 38 [some (.ref (E.2.2.2 + q4)), some (.int x5), none] [] hh (k38 hh)) (eq4 : isO shC q4 0 = true) : ∀ (N : Nat) (x6 : Int32) (h7 : Hp), G E shC X vv 12 [some (.ref (E.2.2.2 + q4)), some (.int x5), some (.int x6)] [] h7 (F_X0_carry_L12 k38 q4 x5 N x6 h7) := by
  intro N
  induction N with
  | zero =>
    intro _ _
    exact g_none
  | succ N ih =>
    intro x6 h7
    rw [F_X0_carry_L12]
    refine g_iload_n (i := 2) C dX0_carry_12 rfl rfl ?_
    refine g_bipush (v := 8) C dX0_carry_13 (by decide) ?_
    refine g_icmp_ge C 38 dX0_carry_15 (by decide) (fun hc14 => ?_) (fun hc14 => ?_)
    · refine g_drop (i := 2) [some (.ref (E.2.2.2 + q4)), some (.int x5), none] rfl ?_
      exact hk38 h7
    · refine g_aload_n (i := 0) C dX0_carry_18 rfl rfl ?_
      refine g_getA C f_X0_55 eq4 dX0_carry_19 (fun q8 _ => ?_)
      refine g_iload_n (i := 1) C dX0_carry_22 rfl rfl ?_
      refine g_aald C 3 (Or.inr rfl) dX0_carry_23 (fun q9 _ => ?_)
      refine g_iload_n (i := 2) C dX0_carry_24 rfl rfl ?_
      refine g_aload_n (i := 0) C dX0_carry_25 rfl rfl ?_
      refine g_iload_n (i := 1) C dX0_carry_26 rfl rfl ?_
      refine g_iload_n (i := 2) C dX0_carry_27 rfl rfl ?_
      refine g_cVi2 C cf_X0_95 cv_X0_carriedTo eq4 (fun r h' e => c_X0_carriedTo E q4 x5 x6 eq4 h7 e) (by decide) (by decide) (Nat.le_of_ble_eq_true rfl) dX0_carry_28 (fun r11 h10 _ => ?_)
      refine g_iast C dX0_carry_31 (fun h12 => ?_)
      refine g_iinc (i := 2) (w := 1) C (fun yy => [some (.ref (E.2.2.2 + q4)), some (.int x5), some (.int yy)]) dX0_carry_32 rfl (by decide) rfl (by decide) rfl (fun _ => rfl) (fun x13 => ?_)
      refine g_goto C 12 dX0_carry_35 (by decide) ?_
      exact ih x13 h12
set_option maxHeartbeats 4000000 in
set_option maxRecDepth 100000 in
theorem G_F_X0_carry_L2 {E : Ev} {X : Cx} (C : Ok E X cX0_carry RX0 3 none 2) (q1 : Nat) (eq1 : isO shC q1 0 = true) : ∀ (N : Nat) (x2 : Int32) (h3 : Hp), G E shC X vv 2 [some (.ref (E.2.2.2 + q1)), some (.int x2), none] [] h3 (F_X0_carry_L2 q1 N x2 h3) := by
  intro N
  induction N with
  | zero =>
    intro _ _
    exact g_none
  | succ N ih =>
    intro x2 h3
    rw [F_X0_carry_L2]
    refine g_iload_n (i := 1) C dX0_carry_2 rfl rfl ?_
    refine g_aload_n (i := 0) C dX0_carry_3 rfl rfl ?_
    refine g_getI C f_X0_15 eq1 dX0_carry_4 ?_
    refine g_icmp_ge C 44 dX0_carry_7 (by decide) (fun hc17 => ?_) (fun hc17 => ?_)
    · exact g_vret C dX0_carry_44
    · refine g_iconst (v := 0) C dX0_carry_10 (by decide) ?_
      refine g_istore_n (i := 2) C [some (.ref (E.2.2.2 + q1)), some (.int x2), some (.int (0 : Int32))] dX0_carry_11 rfl (by decide) rfl rfl ?_
      refine G_F_X0_carry_L12 C _ q1 x2 (fun h15 => ?_) eq1 FU (0 : Int32) h3
      refine g_iinc (i := 1) (w := 1) C (fun yy => [some (.ref (E.2.2.2 + q1)), some (.int yy), none]) dX0_carry_38 rfl (by decide) rfl (by decide) rfl (fun _ => rfl) (fun x16 => ?_)
      refine g_goto C 2 dX0_carry_41 (by decide) ?_
      exact ih x16 h15
set_option maxHeartbeats 4000000 in
set_option maxRecDepth 100000 in
theorem c_X0_carry (E : Ev) (o : Nat) (eo : isO shC o 0 = true) (h : Hp) {r : Unit} {h' : Hp} (e : F_X0_carry o h = some (r, h')) : Ctr E shC yX0_carry cX0_carry 3 none 2 [.ref (E.2.2.2 + o)] h (vv r) h' := by
  refine Ctr.ofG (val := vv) e (by decide) (Nat.le_of_ble_eq_true rfl) [some (.ref (E.2.2.2 + o)), none, none] rfl (fun X C => ?_)
  unfold F_X0_carry
  refine g_iconst (v := 0) C dX0_carry_0 (by decide) ?_
  refine g_istore_n (i := 1) C [some (.ref (E.2.2.2 + o)), some (.int (0 : Int32)), none] dX0_carry_1 rfl (by decide) rfl rfl ?_
  exact G_F_X0_carry_L2 C o eo FU (0 : Int32) h
set_option maxHeartbeats 4000000 in
set_option maxRecDepth 100000 in
theorem G_F_X0_catches_J72 {E : Ev} {X : Cx} (C : Ok E X cX0_catches RX0 7 (some .boolean) 1) (x12 : Int32) (y13 : Int32) (h14 : Hp) : G E shC X vi 72 [none, none, none, none, none, some (.int x12), none] [.int y13] h14 (F_X0_catches_J72 x12 y13 h14) := by
  unfold F_X0_catches_J72
  refine g_istore (i := 6) C [none, none, none, none, none, some (.int x12), some (.int y13)] dX0_catches_72 (by decide) rfl rfl ?_
  refine g_iload (i := 5) C dX0_catches_74 rfl ?_
  refine g_iload (i := 6) C dX0_catches_76 rfl ?_
  refine g_icmp_lt C 85 dX0_catches_78 (by decide) (fun hc15 => ?_) (fun hc15 => ?_)
  · refine g_iconst (v := 0) C dX0_catches_85 (by decide) ?_
    exact g_iretz C rfl dX0_catches_86
  · refine g_iconst (v := 1) C dX0_catches_81 (by decide) ?_
    refine g_goto C 86 dX0_catches_82 (by decide) ?_
    exact g_iretz C rfl dX0_catches_86
set_option maxHeartbeats 4000000 in
set_option maxRecDepth 100000 in
theorem G_F_X0_catches_J23 {E : Ev} {X : Cx} (C : Ok E X cX0_catches RX0 7 (some .boolean) 1) (q2 : Nat) (x3 : Int32) (x4 : Int32) (x5 : Int32) (x6 : Int32) (eq2 : isO shC q2 0 = true) (h7 : Hp) : G E shC X vi 23 [some (.ref (E.2.2.2 + q2)), some (.int x3), some (.int x4), some (.int x5), some (.int x6), none, none] [] h7 (F_X0_catches_J23 q2 x3 x4 x5 x6 h7) := by
  unfold F_X0_catches_J23
  refine g_iload (i := 4) C dX0_catches_23 rfl ?_
  refine g_iconst (v := 2) C dX0_catches_25 (by decide) ?_
  refine g_aload_n (i := 0) C dX0_catches_26 rfl rfl ?_
  refine g_getA C f_X0_34 eq2 dX0_catches_27 (fun q8 _ => ?_)
  refine g_iload_n (i := 3) C dX0_catches_30 rfl rfl ?_
  refine g_iald C dX0_catches_31 ?_
  refine g_iload_n (i := 2) C dX0_catches_32 rfl rfl ?_
  refine g_isub C dX0_catches_33 ?_
  refine g_mabs C ⟨aw_3, aw_4, aw_5, aw_6⟩ (by decide) (Nat.le_of_ble_eq_true rfl) dX0_catches_34 ?_
  refine g_imul C dX0_catches_37 ?_
  refine g_isub C dX0_catches_38 ?_
  refine g_topi (fun x9 => ?_)
  refine g_istore (i := 5) C [some (.ref (E.2.2.2 + q2)), some (.int x3), some (.int x4), some (.int x5), some (.int x6), some (.int x9), none] dX0_catches_39 (by decide) rfl rfl ?_
  refine g_aload_n (i := 0) C dX0_catches_41 rfl rfl ?_
  refine g_getA C f_X0_21 eq2 dX0_catches_42 (fun q10 _ => ?_)
  refine g_iload_n (i := 1) C dX0_catches_45 rfl rfl ?_
  refine g_iald C dX0_catches_46 ?_
  refine g_iconst (v := 1) C dX0_catches_47 (by decide) ?_
  refine g_icmp_ne C 62 dX0_catches_48 (by decide) (fun hc17 => ?_) (fun hc17 => ?_)
  · refine g_aload_n (i := 0) C dX0_catches_51 rfl rfl ?_
    refine g_getA C f_X0_28 eq2 dX0_catches_52 (fun q16 _ => ?_)
    refine g_iload_n (i := 1) C dX0_catches_55 rfl rfl ?_
    refine g_iald C dX0_catches_56 ?_
    refine g_iconst (v := 1) C dX0_catches_57 (by decide) ?_
    refine g_iadd C dX0_catches_58 ?_
    refine g_goto C 72 dX0_catches_59 (by decide) ?_
    refine g_drop (i := 0) [none, some (.int x3), some (.int x4), some (.int x5), some (.int x6), some (.int x9), none] rfl ?_
    refine g_drop (i := 1) [none, none, some (.int x4), some (.int x5), some (.int x6), some (.int x9), none] rfl ?_
    refine g_drop (i := 2) [none, none, none, some (.int x5), some (.int x6), some (.int x9), none] rfl ?_
    refine g_drop (i := 3) [none, none, none, none, some (.int x6), some (.int x9), none] rfl ?_
    refine g_drop (i := 4) [none, none, none, none, none, some (.int x9), none] rfl ?_
    exact G_F_X0_catches_J72 C x9 ((h7.1 q16 (x3).toNatClampNeg) + (1 : Int32)) h7
  · refine g_aload_n (i := 0) C dX0_catches_62 rfl rfl ?_
    refine g_getA C f_X0_28 eq2 dX0_catches_63 (fun q11 _ => ?_)
    refine g_iload_n (i := 1) C dX0_catches_66 rfl rfl ?_
    refine g_iald C dX0_catches_67 ?_
    refine g_iconst (v := 1) C dX0_catches_68 (by decide) ?_
    refine g_mmax C ⟨aw_7, aw_8, aw_5, aw_9⟩ (by decide) (Nat.le_of_ble_eq_true rfl) dX0_catches_69 ?_
    refine g_drop (i := 0) [none, some (.int x3), some (.int x4), some (.int x5), some (.int x6), some (.int x9), none] rfl ?_
    refine g_drop (i := 1) [none, none, some (.int x4), some (.int x5), some (.int x6), some (.int x9), none] rfl ?_
    refine g_drop (i := 2) [none, none, none, some (.int x5), some (.int x6), some (.int x9), none] rfl ?_
    refine g_drop (i := 3) [none, none, none, none, some (.int x6), some (.int x9), none] rfl ?_
    refine g_drop (i := 4) [none, none, none, none, none, some (.int x9), none] rfl ?_
    exact G_F_X0_catches_J72 C x9 (mX (h7.1 q11 (x3).toNatClampNeg) (1 : Int32)) h7
set_option maxHeartbeats 4000000 in
set_option maxRecDepth 100000 in
theorem c_X0_catches (E : Ev) (o : Nat) (p0 : Int32) (p1 : Int32) (p2 : Int32) (p3 : Int32) (eo : isO shC o 0 = true) (h : Hp) {r : Int32} {h' : Hp} (e : F_X0_catches o p0 p1 p2 p3 h = some (r, h')) : Ctr E shC yX0_catches cX0_catches 7 (some .boolean) 1 [.ref (E.2.2.2 + o), .int p0, .int p1, .int p2, .int p3] h (vi r) h' := by
  refine Ctr.ofG (val := vi) e (by decide) (Nat.le_of_ble_eq_true rfl) [some (.ref (E.2.2.2 + o)), some (.int p0), some (.int p1), some (.int p2), some (.int p3), none, none] rfl (fun X C => ?_)
  unfold F_X0_catches
  refine g_aload_n (i := 0) C dX0_catches_0 rfl rfl ?_
  refine g_getA C f_X0_31 eo dX0_catches_1 (fun q1 _ => ?_)
  refine g_iload_n (i := 1) C dX0_catches_4 rfl rfl ?_
  refine g_iald C dX0_catches_5 ?_
  refine g_bipush (v := -9) C dX0_catches_6 (by decide) ?_
  refine g_icmp_eq C 23 dX0_catches_8 (by decide) (fun hc20 => ?_) (fun hc20 => ?_)
  · exact G_F_X0_catches_J23 C o p0 p1 p2 p3 eo h
  · refine g_aload_n (i := 0) C dX0_catches_11 rfl rfl ?_
    refine g_getA C f_X0_31 eo dX0_catches_12 (fun q18 _ => ?_)
    refine g_iload_n (i := 1) C dX0_catches_15 rfl rfl ?_
    refine g_iald C dX0_catches_16 ?_
    refine g_iload_n (i := 3) C dX0_catches_17 rfl rfl ?_
    refine g_icmp_gt C 23 dX0_catches_18 (by decide) (fun hc19 => ?_) (fun hc19 => ?_)
    · exact G_F_X0_catches_J23 C o p0 p1 p2 p3 eo h
    · refine g_iconst (v := 0) C dX0_catches_21 (by decide) ?_
      exact g_iretz C rfl dX0_catches_22
set_option maxHeartbeats 4000000 in
set_option maxRecDepth 100000 in
theorem c_X0_cellarOn (E : Ev) (o : Nat) (p0 : Int32) (p1 : Int32) (eo : isO shC o 0 = true) (h : Hp) {r : Int32} {h' : Hp} (e : F_X0_cellarOn o p0 p1 h = some (r, h')) : Ctr E shC yX0_cellarOn cX0_cellarOn 3 (some .int) 1 [.ref (E.2.2.2 + o), .int p0, .int p1] h (vi r) h' := by
  refine Ctr.ofG (val := vi) e (by decide) (Nat.le_of_ble_eq_true rfl) [some (.ref (E.2.2.2 + o)), some (.int p0), some (.int p1)] rfl (fun X C => ?_)
  unfold F_X0_cellarOn
  refine g_aload_n (i := 0) C dX0_cellarOn_0 rfl rfl ?_
  refine g_getA C f_X0_55 eo dX0_cellarOn_1 (fun q1 _ => ?_)
  refine g_iload_n (i := 1) C dX0_cellarOn_4 rfl rfl ?_
  refine g_aald C 3 (Or.inr rfl) dX0_cellarOn_5 (fun q2 _ => ?_)
  refine g_iload_n (i := 2) C dX0_cellarOn_6 rfl rfl ?_
  refine g_iald C dX0_cellarOn_7 ?_
  refine g_bipush (v := -9) C dX0_cellarOn_8 (by decide) ?_
  refine g_icmp_ne C 22 dX0_cellarOn_10 (by decide) (fun hc6 => ?_) (fun hc6 => ?_)
  · refine g_aload_n (i := 0) C dX0_cellarOn_13 rfl rfl ?_
    refine g_getA C f_X0_25 eo dX0_cellarOn_14 (fun q5 _ => ?_)
    refine g_iload_n (i := 1) C dX0_cellarOn_17 rfl rfl ?_
    refine g_iald C dX0_cellarOn_18 ?_
    refine g_goto C 30 dX0_cellarOn_19 (by decide) ?_
    exact g_ireti C dX0_cellarOn_30
  · refine g_aload_n (i := 0) C dX0_cellarOn_22 rfl rfl ?_
    refine g_getA C f_X0_55 eo dX0_cellarOn_23 (fun q3 _ => ?_)
    refine g_iload_n (i := 1) C dX0_cellarOn_26 rfl rfl ?_
    refine g_aald C 3 (Or.inr rfl) dX0_cellarOn_27 (fun q4 _ => ?_)
    refine g_iload_n (i := 2) C dX0_cellarOn_28 rfl rfl ?_
    refine g_iald C dX0_cellarOn_29 ?_
    exact g_ireti C dX0_cellarOn_30
set_option maxHeartbeats 4000000 in
set_option maxRecDepth 100000 in
theorem c_X0_kindOf (E : Ev) (p0 : Int32) (h : Hp) {r : Int32} {h' : Hp} (e : F_X0_kindOf p0 h = some (r, h')) : Ctr E shC yX0_kindOf cX0_kindOf 1 (some .int) 1 [.int p0] h (vi r) h' := by
  refine Ctr.ofG (val := vi) e (by decide) (Nat.le_of_ble_eq_true rfl) [some (.int p0)] rfl (fun X C => ?_)
  unfold F_X0_kindOf
  refine g_iload_n (i := 0) C dX0_kindOf_0 rfl rfl ?_
  refine g_if (fun hs1_0 => ?_) (fun hs1_0 => ?_)
  · refine g_lookup C 36 (off := 35) dX0_kindOf_1 (by decide) (by rw [hs1_0]; rfl) (by decide) ?_
    refine g_iconst (v := 0) C dX0_kindOf_36 (by decide) ?_
    exact g_ireti C dX0_kindOf_37
  · refine g_if (fun hs1_1 => ?_) (fun hs1_1 => ?_)
    · refine g_lookup C 40 (off := 39) dX0_kindOf_1 (by decide) (by rw [hs1_1]; rfl) (by decide) ?_
      refine g_iconst (v := 2) C dX0_kindOf_40 (by decide) ?_
      exact g_ireti C dX0_kindOf_41
    · refine g_if (fun hs1_2 => ?_) (fun hs1_2 => ?_)
      · refine g_lookup C 38 (off := 37) dX0_kindOf_1 (by decide) (by rw [hs1_2]; rfl) (by decide) ?_
        refine g_iconst (v := 1) C dX0_kindOf_38 (by decide) ?_
        exact g_ireti C dX0_kindOf_39
      · refine g_lookup C 42 (off := 41) dX0_kindOf_1 (by decide) (by rw [lv_osw (k := 99) hs1_0 (by decide), lv_osw (k := 109) hs1_1 (by decide), lv_osw (k := 119) hs1_2 (by decide)]; rfl) (by decide) ?_
        refine g_bipush (v := -9) C dX0_kindOf_42 (by decide) ?_
        exact g_ireti C dX0_kindOf_44
set_option maxHeartbeats 4000000 in
set_option maxRecDepth 100000 in
theorem c_X0_isDigit (E : Ev) (p0 : Int32) (p1 : Int32) (p2 : Int32) (h : Hp) {r : Int32} {h' : Hp} (e : F_X0_isDigit p0 p1 p2 h = some (r, h')) : Ctr E shC yX0_isDigit cX0_isDigit 3 (some .boolean) 1 [.int p0, .int p1, .int p2] h (vi r) h' := by
  refine Ctr.ofG (val := vi) e (by decide) (Nat.le_of_ble_eq_true rfl) [some (.int p0), some (.int p1), some (.int p2)] rfl (fun X C => ?_)
  unfold F_X0_isDigit
  refine g_iload_n (i := 0) C dX0_isDigit_0 rfl rfl ?_
  refine g_bipush (v := 48) C dX0_isDigit_1 (by decide) ?_
  refine g_iload_n (i := 1) C dX0_isDigit_3 rfl rfl ?_
  refine g_iadd C dX0_isDigit_4 ?_
  refine g_icmp_lt C 20 dX0_isDigit_5 (by decide) (fun hc2 => ?_) (fun hc2 => ?_)
  · refine g_iconst (v := 0) C dX0_isDigit_20 (by decide) ?_
    exact g_iretz C rfl dX0_isDigit_21
  · refine g_iload_n (i := 0) C dX0_isDigit_8 rfl rfl ?_
    refine g_bipush (v := 48) C dX0_isDigit_9 (by decide) ?_
    refine g_iload_n (i := 2) C dX0_isDigit_11 rfl rfl ?_
    refine g_iadd C dX0_isDigit_12 ?_
    refine g_icmp_gt C 20 dX0_isDigit_13 (by decide) (fun hc1 => ?_) (fun hc1 => ?_)
    · refine g_iconst (v := 0) C dX0_isDigit_20 (by decide) ?_
      exact g_iretz C rfl dX0_isDigit_21
    · refine g_iconst (v := 1) C dX0_isDigit_16 (by decide) ?_
      refine g_goto C 21 dX0_isDigit_17 (by decide) ?_
      exact g_iretz C rfl dX0_isDigit_21
set_option maxHeartbeats 4000000 in
set_option maxRecDepth 100000 in
theorem c_X0_cheeseGoesOn (E : Ev) (o : Nat) (p0 : Int32) (p1 : Int32) (eo : isO shC o 0 = true) (h : Hp) {r : Int32} {h' : Hp} (e : F_X0_cheeseGoesOn o p0 p1 h = some (r, h')) : Ctr E shC yX0_cheeseGoesOn cX0_cheeseGoesOn 4 (some .boolean) 2 [.ref (E.2.2.2 + o), .int p0, .int p1] h (vi r) h' := by
  refine Ctr.ofG (val := vi) e (by decide) (Nat.le_of_ble_eq_true rfl) [some (.ref (E.2.2.2 + o)), some (.int p0), some (.int p1), none] rfl (fun X C => ?_)
  unfold F_X0_cheeseGoesOn
  refine g_aload_n (i := 0) C dX0_cheeseGoesOn_0 rfl rfl ?_
  refine g_getI C f_X0_15 eo dX0_cheeseGoesOn_1 ?_
  refine g_iconst (v := 1) C dX0_cheeseGoesOn_4 (by decide) ?_
  refine g_isub C dX0_cheeseGoesOn_5 ?_
  refine g_topi (fun x1 => ?_)
  refine g_istore_n (i := 3) C [some (.ref (E.2.2.2 + o)), some (.int p0), some (.int p1), some (.int x1)] dX0_cheeseGoesOn_6 rfl (by decide) rfl rfl ?_
  refine g_iload_n (i := 1) C dX0_cheeseGoesOn_7 rfl rfl ?_
  refine g_iconst (v := 1) C dX0_cheeseGoesOn_8 (by decide) ?_
  refine g_icmp_ne C 39 dX0_cheeseGoesOn_9 (by decide) (fun hc17 => ?_) (fun hc17 => ?_)
  · refine g_aload_n (i := 0) C dX0_cheeseGoesOn_12 rfl rfl ?_
    refine g_getA C f_X0_21 eo dX0_cheeseGoesOn_13 (fun q11 _ => ?_)
    refine g_iload_n (i := 3) C dX0_cheeseGoesOn_16 rfl rfl ?_
    refine g_iload_n (i := 2) C dX0_cheeseGoesOn_17 rfl rfl ?_
    refine g_cSi1 C cf_X0_91 aw_11 (fun r h' e => c_X0_kindOf E p1 h e) (by decide) (by decide) (Nat.le_of_ble_eq_true rfl) dX0_cheeseGoesOn_18 (fun r13 h12 _ => ?_)
    refine g_iast C dX0_cheeseGoesOn_21 (fun h14 => ?_)
    refine g_aload_n (i := 0) C dX0_cheeseGoesOn_22 rfl rfl ?_
    refine g_getA C f_X0_21 eo dX0_cheeseGoesOn_23 (fun q15 _ => ?_)
    refine g_iload_n (i := 3) C dX0_cheeseGoesOn_26 rfl rfl ?_
    refine g_iald C dX0_cheeseGoesOn_27 ?_
    refine g_bipush (v := -9) C dX0_cheeseGoesOn_28 (by decide) ?_
    refine g_icmp_eq C 37 dX0_cheeseGoesOn_30 (by decide) (fun hc16 => ?_) (fun hc16 => ?_)
    · refine g_iconst (v := 0) C dX0_cheeseGoesOn_37 (by decide) ?_
      exact g_iretz C rfl dX0_cheeseGoesOn_38
    · refine g_iconst (v := 1) C dX0_cheeseGoesOn_33 (by decide) ?_
      refine g_goto C 38 dX0_cheeseGoesOn_34 (by decide) ?_
      exact g_iretz C rfl dX0_cheeseGoesOn_38
  · refine g_iload_n (i := 1) C dX0_cheeseGoesOn_39 rfl rfl ?_
    refine g_iconst (v := 2) C dX0_cheeseGoesOn_40 (by decide) ?_
    refine g_icmp_ne C 66 dX0_cheeseGoesOn_41 (by decide) (fun hc10 => ?_) (fun hc10 => ?_)
    · refine g_aload_n (i := 0) C dX0_cheeseGoesOn_44 rfl rfl ?_
      refine g_getA C f_X0_25 eo dX0_cheeseGoesOn_45 (fun q6 _ => ?_)
      refine g_iload_n (i := 3) C dX0_cheeseGoesOn_48 rfl rfl ?_
      refine g_iload_n (i := 2) C dX0_cheeseGoesOn_49 rfl rfl ?_
      refine g_bipush (v := 48) C dX0_cheeseGoesOn_50 (by decide) ?_
      refine g_isub C dX0_cheeseGoesOn_52 ?_
      refine g_iast C dX0_cheeseGoesOn_53 (fun h7 => ?_)
      refine g_iload_n (i := 2) C dX0_cheeseGoesOn_54 rfl rfl ?_
      refine g_iconst (v := 0) C dX0_cheeseGoesOn_55 (by decide) ?_
      refine g_aload_n (i := 0) C dX0_cheeseGoesOn_56 rfl rfl ?_
      refine g_getI C f_X0_9 eo dX0_cheeseGoesOn_57 ?_
      refine g_iconst (v := 1) C dX0_cheeseGoesOn_60 (by decide) ?_
      refine g_isub C dX0_cheeseGoesOn_61 ?_
      refine g_cSi3 C cf_X0_77 aw_10 (fun r h' e => c_X0_isDigit E p1 (0 : Int32) ((h7.1 o 0) - (1 : Int32)) h7 e) (by decide) (by decide) (Nat.le_of_ble_eq_true rfl) dX0_cheeseGoesOn_62 (fun r9 h8 _ => ?_)
      exact g_iretb C dX0_cheeseGoesOn_65
    · refine g_aload_n (i := 0) C dX0_cheeseGoesOn_66 rfl rfl ?_
      refine g_getA C f_X0_28 eo dX0_cheeseGoesOn_67 (fun q2 _ => ?_)
      refine g_iload_n (i := 3) C dX0_cheeseGoesOn_70 rfl rfl ?_
      refine g_iload_n (i := 2) C dX0_cheeseGoesOn_71 rfl rfl ?_
      refine g_bipush (v := 48) C dX0_cheeseGoesOn_72 (by decide) ?_
      refine g_isub C dX0_cheeseGoesOn_74 ?_
      refine g_iast C dX0_cheeseGoesOn_75 (fun h3 => ?_)
      refine g_iload_n (i := 2) C dX0_cheeseGoesOn_76 rfl rfl ?_
      refine g_iconst (v := 0) C dX0_cheeseGoesOn_77 (by decide) ?_
      refine g_bipush (v := 9) C dX0_cheeseGoesOn_78 (by decide) ?_
      refine g_cSi3 C cf_X0_77 aw_10 (fun r h' e => c_X0_isDigit E p1 (0 : Int32) (9 : Int32) h3 e) (by decide) (by decide) (Nat.le_of_ble_eq_true rfl) dX0_cheeseGoesOn_80 (fun r5 h4 _ => ?_)
      exact g_iretb C dX0_cheeseGoesOn_83
set_option maxHeartbeats 4000000 in
set_option maxRecDepth 100000 in
theorem G_F_X0_depthOf_L10 {E : Ev} {X : Cx} (C : Ok E X cX0_depthOf RX0 5 (some .int) 1) (q2 : Nat) (x3 : Int32) (x4 : Int32) (eq2 : isO shC q2 0 = true) : ∀ (N : Nat) (x5 : Int32) (x6 : Int32) (h7 : Hp), G E shC X vi 10 [some (.ref (E.2.2.2 + q2)), some (.int x3), some (.int x4), some (.int x5), some (.int x6)] [] h7 (F_X0_depthOf_L10 q2 x3 x4 N x5 x6 h7) := by
  intro N
  induction N with
  | zero =>
    intro _ _ _
    exact g_none
  | succ N ih =>
    intro x5 x6 h7
    rw [F_X0_depthOf_L10]
    refine g_iload (i := 4) C dX0_depthOf_10 rfl ?_
    refine g_if_lt C 46 dX0_depthOf_12 (by decide) (fun hc14 => ?_) (fun hc14 => ?_)
    · refine g_bipush (v := -9) C dX0_depthOf_46 (by decide) ?_
      exact g_ireti C dX0_depthOf_48
    · refine g_iload_n (i := 1) C dX0_depthOf_15 rfl rfl ?_
      refine g_iload (i := 4) C dX0_depthOf_16 rfl ?_
      refine g_ishr C dX0_depthOf_18 ?_
      refine g_iconst (v := 1) C dX0_depthOf_19 (by decide) ?_
      refine g_iand C dX0_depthOf_20 ?_
      refine g_if_eq C 40 dX0_depthOf_21 (by decide) (fun hc13 => ?_) (fun hc13 => ?_)
      · refine g_iinc (i := 4) (w := -1) C (fun yy => [some (.ref (E.2.2.2 + q2)), some (.int x3), some (.int x4), some (.int x5), some (.int yy)]) dX0_depthOf_40 rfl (by decide) rfl (by decide) rfl (fun _ => rfl) (fun x8 => ?_)
        refine g_goto C 10 dX0_depthOf_43 (by decide) ?_
        exact ih x5 x8 h7
      · refine g_iinc (i := 3) (w := 1) C (fun yy => [some (.ref (E.2.2.2 + q2)), some (.int x3), some (.int x4), some (.int yy), some (.int x6)]) dX0_depthOf_24 rfl (by decide) rfl (by decide) rfl (fun _ => rfl) (fun x9 => ?_)
        refine g_aload_n (i := 0) C dX0_depthOf_27 rfl rfl ?_
        refine g_getA C f_X0_40 eq2 dX0_depthOf_28 (fun q10 _ => ?_)
        refine g_iload (i := 4) C dX0_depthOf_31 rfl ?_
        refine g_iald C dX0_depthOf_33 ?_
        refine g_iload_n (i := 2) C dX0_depthOf_34 rfl rfl ?_
        refine g_icmp_ne C 40 dX0_depthOf_35 (by decide) (fun hc12 => ?_) (fun hc12 => ?_)
        · refine g_iload_n (i := 3) C dX0_depthOf_38 rfl rfl ?_
          exact g_ireti C dX0_depthOf_39
        · refine g_iinc (i := 4) (w := -1) C (fun yy => [some (.ref (E.2.2.2 + q2)), some (.int x3), some (.int x4), some (.int x9), some (.int yy)]) dX0_depthOf_40 rfl (by decide) rfl (by decide) rfl (fun _ => rfl) (fun x11 => ?_)
          refine g_goto C 10 dX0_depthOf_43 (by decide) ?_
          exact ih x9 x11 h7
set_option maxHeartbeats 4000000 in
set_option maxRecDepth 100000 in
theorem c_X0_depthOf (E : Ev) (o : Nat) (p0 : Int32) (p1 : Int32) (eo : isO shC o 0 = true) (h : Hp) {r : Int32} {h' : Hp} (e : F_X0_depthOf o p0 p1 h = some (r, h')) : Ctr E shC yX0_depthOf cX0_depthOf 5 (some .int) 1 [.ref (E.2.2.2 + o), .int p0, .int p1] h (vi r) h' := by
  refine Ctr.ofG (val := vi) e (by decide) (Nat.le_of_ble_eq_true rfl) [some (.ref (E.2.2.2 + o)), some (.int p0), some (.int p1), none, none] rfl (fun X C => ?_)
  unfold F_X0_depthOf
  refine g_iconst (v := 0) C dX0_depthOf_0 (by decide) ?_
  refine g_istore_n (i := 3) C [some (.ref (E.2.2.2 + o)), some (.int p0), some (.int p1), some (.int (0 : Int32)), none] dX0_depthOf_1 rfl (by decide) rfl rfl ?_
  refine g_aload_n (i := 0) C dX0_depthOf_2 rfl rfl ?_
  refine g_getI C f_X0_18 eo dX0_depthOf_3 ?_
  refine g_iconst (v := 1) C dX0_depthOf_6 (by decide) ?_
  refine g_isub C dX0_depthOf_7 ?_
  refine g_topi (fun x1 => ?_)
  refine g_istore (i := 4) C [some (.ref (E.2.2.2 + o)), some (.int p0), some (.int p1), some (.int (0 : Int32)), some (.int x1)] dX0_depthOf_8 (by decide) rfl rfl ?_
  exact G_F_X0_depthOf_L10 C o p0 p1 eo FU (0 : Int32) x1 h
set_option maxHeartbeats 4000000 in
set_option maxRecDepth 100000 in
theorem c_X0_talkGoesOn (E : Ev) (o : Nat) (p0 : Int32) (p1 : Int32) (eo : isO shC o 0 = true) (h : Hp) {r : Int32} {h' : Hp} (e : F_X0_talkGoesOn o p0 p1 h = some (r, h')) : Ctr E shC yX0_talkGoesOn cX0_talkGoesOn 4 (some .boolean) 2 [.ref (E.2.2.2 + o), .int p0, .int p1] h (vi r) h' := by
  refine Ctr.ofG (val := vi) e (by decide) (Nat.le_of_ble_eq_true rfl) [some (.ref (E.2.2.2 + o)), some (.int p0), some (.int p1), none] rfl (fun X C => ?_)
  unfold F_X0_talkGoesOn
  refine g_aload_n (i := 0) C dX0_talkGoesOn_0 rfl rfl ?_
  refine g_getI C f_X0_18 eo dX0_talkGoesOn_1 ?_
  refine g_iconst (v := 1) C dX0_talkGoesOn_4 (by decide) ?_
  refine g_isub C dX0_talkGoesOn_5 ?_
  refine g_topi (fun x1 => ?_)
  refine g_istore_n (i := 3) C [some (.ref (E.2.2.2 + o)), some (.int p0), some (.int p1), some (.int x1)] dX0_talkGoesOn_6 rfl (by decide) rfl rfl ?_
  refine g_iload_n (i := 1) C dX0_talkGoesOn_7 rfl rfl ?_
  refine g_iconst (v := 1) C dX0_talkGoesOn_8 (by decide) ?_
  refine g_icmp_ne C 34 dX0_talkGoesOn_9 (by decide) (fun hc15 => ?_) (fun hc15 => ?_)
  · refine g_aload_n (i := 0) C dX0_talkGoesOn_12 rfl rfl ?_
    refine g_getA C f_X0_34 eo dX0_talkGoesOn_13 (fun q11 _ => ?_)
    refine g_iload_n (i := 3) C dX0_talkGoesOn_16 rfl rfl ?_
    refine g_iload_n (i := 2) C dX0_talkGoesOn_17 rfl rfl ?_
    refine g_bipush (v := 48) C dX0_talkGoesOn_18 (by decide) ?_
    refine g_isub C dX0_talkGoesOn_20 ?_
    refine g_iast C dX0_talkGoesOn_21 (fun h12 => ?_)
    refine g_iload_n (i := 2) C dX0_talkGoesOn_22 rfl rfl ?_
    refine g_iconst (v := 0) C dX0_talkGoesOn_23 (by decide) ?_
    refine g_aload_n (i := 0) C dX0_talkGoesOn_24 rfl rfl ?_
    refine g_getI C f_X0_9 eo dX0_talkGoesOn_25 ?_
    refine g_iconst (v := 1) C dX0_talkGoesOn_28 (by decide) ?_
    refine g_isub C dX0_talkGoesOn_29 ?_
    refine g_cSi3 C cf_X0_77 aw_10 (fun r h' e => c_X0_isDigit E p1 (0 : Int32) ((h12.1 o 0) - (1 : Int32)) h12 e) (by decide) (by decide) (Nat.le_of_ble_eq_true rfl) dX0_talkGoesOn_30 (fun r14 h13 _ => ?_)
    exact g_iretb C dX0_talkGoesOn_33
  · refine g_iload_n (i := 1) C dX0_talkGoesOn_34 rfl rfl ?_
    refine g_iconst (v := 2) C dX0_talkGoesOn_35 (by decide) ?_
    refine g_icmp_ne C 57 dX0_talkGoesOn_36 (by decide) (fun hc10 => ?_) (fun hc10 => ?_)
    · refine g_aload_n (i := 0) C dX0_talkGoesOn_39 rfl rfl ?_
      refine g_getA C f_X0_37 eo dX0_talkGoesOn_40 (fun q6 _ => ?_)
      refine g_iload_n (i := 3) C dX0_talkGoesOn_43 rfl rfl ?_
      refine g_iload_n (i := 2) C dX0_talkGoesOn_44 rfl rfl ?_
      refine g_bipush (v := 48) C dX0_talkGoesOn_45 (by decide) ?_
      refine g_isub C dX0_talkGoesOn_47 ?_
      refine g_iast C dX0_talkGoesOn_48 (fun h7 => ?_)
      refine g_iload_n (i := 2) C dX0_talkGoesOn_49 rfl rfl ?_
      refine g_iconst (v := 1) C dX0_talkGoesOn_50 (by decide) ?_
      refine g_bipush (v := 9) C dX0_talkGoesOn_51 (by decide) ?_
      refine g_cSi3 C cf_X0_77 aw_10 (fun r h' e => c_X0_isDigit E p1 (1 : Int32) (9 : Int32) h7 e) (by decide) (by decide) (Nat.le_of_ble_eq_true rfl) dX0_talkGoesOn_53 (fun r9 h8 _ => ?_)
      exact g_iretb C dX0_talkGoesOn_56
    · refine g_aload_n (i := 0) C dX0_talkGoesOn_57 rfl rfl ?_
      refine g_getA C f_X0_40 eo dX0_talkGoesOn_58 (fun q2 _ => ?_)
      refine g_iload_n (i := 3) C dX0_talkGoesOn_61 rfl rfl ?_
      refine g_iload_n (i := 2) C dX0_talkGoesOn_62 rfl rfl ?_
      refine g_bipush (v := 48) C dX0_talkGoesOn_63 (by decide) ?_
      refine g_isub C dX0_talkGoesOn_65 ?_
      refine g_iast C dX0_talkGoesOn_66 (fun h3 => ?_)
      refine g_iload_n (i := 2) C dX0_talkGoesOn_67 rfl rfl ?_
      refine g_iconst (v := 0) C dX0_talkGoesOn_68 (by decide) ?_
      refine g_bipush (v := 7) C dX0_talkGoesOn_69 (by decide) ?_
      refine g_cSi3 C cf_X0_77 aw_10 (fun r h' e => c_X0_isDigit E p1 (0 : Int32) (7 : Int32) h3 e) (by decide) (by decide) (Nat.le_of_ble_eq_true rfl) dX0_talkGoesOn_71 (fun r5 h4 _ => ?_)
      exact g_iretb C dX0_talkGoesOn_74
set_option maxHeartbeats 4000000 in
set_option maxRecDepth 100000 in
theorem c_X0_goesOn (E : Ev) (o : Nat) (p0 : Int32) (p1 : Int32) (eo : isO shC o 0 = true) (h : Hp) {r : Int32} {h' : Hp} (e : F_X0_goesOn o p0 p1 h = some (r, h')) : Ctr E shC yX0_goesOn cX0_goesOn 4 (some .boolean) 3 [.ref (E.2.2.2 + o), .int p0, .int p1] h (vi r) h' := by
  refine Ctr.ofG (val := vi) e (by decide) (Nat.le_of_ble_eq_true rfl) [some (.ref (E.2.2.2 + o)), some (.int p0), some (.int p1), none] rfl (fun X C => ?_)
  unfold F_X0_goesOn
  refine g_iload_n (i := 1) C dX0_goesOn_0 rfl rfl ?_
  refine g_if_ne C 16 dX0_goesOn_1 (by decide) (fun hc15 => ?_) (fun hc15 => ?_)
  · refine g_iload_n (i := 2) C dX0_goesOn_4 rfl rfl ?_
    refine g_bipush (v := 113) C dX0_goesOn_5 (by decide) ?_
    refine g_icmp_ne C 14 dX0_goesOn_7 (by decide) (fun hc14 => ?_) (fun hc14 => ?_)
    · refine g_iconst (v := 1) C dX0_goesOn_10 (by decide) ?_
      refine g_goto C 15 dX0_goesOn_11 (by decide) ?_
      exact g_iretz C rfl dX0_goesOn_15
    · refine g_iconst (v := 0) C dX0_goesOn_14 (by decide) ?_
      exact g_iretz C rfl dX0_goesOn_15
  · refine g_iload_n (i := 1) C dX0_goesOn_16 rfl rfl ?_
    refine g_iconst (v := 1) C dX0_goesOn_17 (by decide) ?_
    refine g_icmp_ne C 36 dX0_goesOn_18 (by decide) (fun hc13 => ?_) (fun hc13 => ?_)
    · refine g_aload_n (i := 0) C dX0_goesOn_21 rfl rfl ?_
      refine g_iload_n (i := 2) C dX0_goesOn_22 rfl rfl ?_
      refine g_bipush (v := 48) C dX0_goesOn_23 (by decide) ?_
      refine g_isub C dX0_goesOn_25 ?_
      refine g_putI C f_X0_9 eo dX0_goesOn_26 (fun h10 => ?_)
      refine g_iload_n (i := 2) C dX0_goesOn_29 rfl rfl ?_
      refine g_iconst (v := 1) C dX0_goesOn_30 (by decide) ?_
      refine g_iconst (v := 5) C dX0_goesOn_31 (by decide) ?_
      refine g_cSi3 C cf_X0_77 aw_10 (fun r h' e => c_X0_isDigit E p1 (1 : Int32) (5 : Int32) h10 e) (by decide) (by decide) (Nat.le_of_ble_eq_true rfl) dX0_goesOn_32 (fun r12 h11 _ => ?_)
      exact g_iretb C dX0_goesOn_35
    · refine g_iload_n (i := 1) C dX0_goesOn_36 rfl rfl ?_
      refine g_iconst (v := 2) C dX0_goesOn_37 (by decide) ?_
      refine g_isub C dX0_goesOn_38 ?_
      refine g_iconst (v := 4) C dX0_goesOn_39 (by decide) ?_
      refine g_irem C dX0_goesOn_40 (by decide) ?_
      refine g_topi (fun x1 => ?_)
      refine g_istore_n (i := 3) C [some (.ref (E.2.2.2 + o)), some (.int p0), some (.int p1), some (.int x1)] dX0_goesOn_41 rfl (by decide) rfl rfl ?_
      refine g_iload_n (i := 3) C dX0_goesOn_42 rfl rfl ?_
      refine g_if_ne C 52 dX0_goesOn_43 (by decide) (fun hc9 => ?_) (fun hc9 => ?_)
      · refine g_aload_n (i := 0) C dX0_goesOn_46 rfl rfl ?_
        refine g_iload_n (i := 2) C dX0_goesOn_47 rfl rfl ?_
        refine g_cVi1 C cf_X0_81 cv_X0_begins eo (fun r h' e => c_X0_begins E o p1 eo h e) (by decide) (by decide) (Nat.le_of_ble_eq_true rfl) dX0_goesOn_48 (fun r8 h7 _ => ?_)
        exact g_iretb C dX0_goesOn_51
      · refine g_aload_n (i := 0) C dX0_goesOn_52 rfl rfl ?_
        refine g_getI C f_X0_18 eo dX0_goesOn_53 ?_
        refine g_if_ne C 68 dX0_goesOn_56 (by decide) (fun hc6 => ?_) (fun hc6 => ?_)
        · refine g_aload_n (i := 0) C dX0_goesOn_59 rfl rfl ?_
          refine g_iload_n (i := 3) C dX0_goesOn_60 rfl rfl ?_
          refine g_iload_n (i := 2) C dX0_goesOn_61 rfl rfl ?_
          refine g_cVi2 C cf_X0_85 cv_X0_cheeseGoesOn eo (fun r h' e => c_X0_cheeseGoesOn E o x1 p1 eo h e) (by decide) (by decide) (Nat.le_of_ble_eq_true rfl) dX0_goesOn_62 (fun r5 h4 _ => ?_)
          refine g_goto C 74 dX0_goesOn_65 (by decide) ?_
          exact g_iretb C dX0_goesOn_74
        · refine g_aload_n (i := 0) C dX0_goesOn_68 rfl rfl ?_
          refine g_iload_n (i := 3) C dX0_goesOn_69 rfl rfl ?_
          refine g_iload_n (i := 2) C dX0_goesOn_70 rfl rfl ?_
          refine g_cVi2 C cf_X0_88 cv_X0_talkGoesOn eo (fun r h' e => c_X0_talkGoesOn E o x1 p1 eo h e) (by decide) (by decide) (Nat.le_of_ble_eq_true rfl) dX0_goesOn_71 (fun r3 h2 _ => ?_)
          exact g_iretb C dX0_goesOn_74
set_option maxHeartbeats 4000000 in
set_option maxRecDepth 100000 in
theorem G_F_X0_talksTo_J77 {E : Ev} {X : Cx} (C : Ok E X cX0_talksTo RX0 7 (some .int) 2) (k8 : Int32 → Int32 → Int32 → Hp → Option (Int32 × Hp)) (q1 : Nat) (x2 : Int32) (x3 : Int32) (x32 : Int32) (x33 : Int32) (x34 : Int32) (hk8 : ∀ (z3 : Int32) (z4 : Int32) (z5 : Int32) (hh : Hp), G E shC X vi 8 [some (.ref (E.2.2.2 + q1)), some (.int x2), some (.int x3), some (.int z3), some (.int z4), some (.int z5), none] [] hh (k8 z3 z4 z5 hh)) (eq1 : isO shC q1 0 = true) (h35 : Hp) : G E shC X vi 77 [some (.ref (E.2.2.2 + q1)), some (.int x2), some (.int x3), some (.int x32), some (.int x33), some (.int x34), none] [] h35 (F_X0_talksTo_J77 k8 q1 x2 x3 x32 x33 x34 h35) := by
  unfold F_X0_talksTo_J77
  refine g_iload (i := 4) C dX0_talksTo_77 rfl ?_
  refine g_if_ne C 86 dX0_talksTo_79 (by decide) (fun hc38 => ?_) (fun hc38 => ?_)
  · refine g_iconst (v := 1) C dX0_talksTo_82 (by decide) ?_
    refine g_goto C 87 dX0_talksTo_83 (by decide) ?_
    refine g_istore (i := 4) C [some (.ref (E.2.2.2 + q1)), some (.int x2), some (.int x3), some (.int x32), some (.int (1 : Int32)), some (.int x34), none] dX0_talksTo_87 (by decide) rfl rfl ?_
    refine g_iinc (i := 5) (w := 1) C (fun yy => [some (.ref (E.2.2.2 + q1)), some (.int x2), some (.int x3), some (.int x32), some (.int (1 : Int32)), some (.int yy), none]) dX0_talksTo_89 rfl (by decide) rfl (by decide) rfl (fun _ => rfl) (fun x37 => ?_)
    refine g_goto C 8 dX0_talksTo_92 (by decide) ?_
    exact hk8 x32 (1 : Int32) x37 h35
  · refine g_iconst (v := 0) C dX0_talksTo_86 (by decide) ?_
    refine g_istore (i := 4) C [some (.ref (E.2.2.2 + q1)), some (.int x2), some (.int x3), some (.int x32), some (.int (0 : Int32)), some (.int x34), none] dX0_talksTo_87 (by decide) rfl rfl ?_
    refine g_iinc (i := 5) (w := 1) C (fun yy => [some (.ref (E.2.2.2 + q1)), some (.int x2), some (.int x3), some (.int x32), some (.int (0 : Int32)), some (.int yy), none]) dX0_talksTo_89 rfl (by decide) rfl (by decide) rfl (fun _ => rfl) (fun x36 => ?_)
    refine g_goto C 8 dX0_talksTo_92 (by decide) ?_
    exact hk8 x32 (0 : Int32) x36 h35
set_option maxHeartbeats 4000000 in
set_option maxRecDepth 100000 in
theorem G_F_X0_talksTo_J70 {E : Ev} {X : Cx} (C : Ok E X cX0_talksTo RX0 7 (some .int) 2) (k8 : Int32 → Int32 → Int32 → Hp → Option (Int32 × Hp)) (q1 : Nat) (x2 : Int32) (x3 : Int32) (x24 : Int32) (x25 : Int32) (x26 : Int32) (hk8 : ∀ (z3 : Int32) (z4 : Int32) (z5 : Int32) (hh : Hp), G E shC X vi 8 [some (.ref (E.2.2.2 + q1)), some (.int x2), some (.int x3), some (.int z3), some (.int z4), some (.int z5), none] [] hh (k8 z3 z4 z5 hh)) (eq1 : isO shC q1 0 = true) (h27 : Hp) : G E shC X vi 70 [some (.ref (E.2.2.2 + q1)), some (.int x2), some (.int x3), some (.int x24), some (.int x25), some (.int x26), none] [] h27 (F_X0_talksTo_J70 k8 q1 x2 x3 x24 x25 x26 h27) := by
  unfold F_X0_talksTo_J70
  refine g_iload_n (i := 3) C dX0_talksTo_70 rfl rfl ?_
  refine g_iconst (v := 1) C dX0_talksTo_71 (by decide) ?_
  refine g_iload (i := 5) C dX0_talksTo_72 rfl ?_
  refine g_ishl C dX0_talksTo_74 ?_
  refine g_ior C dX0_talksTo_75 ?_
  refine g_topi (fun x28 => ?_)
  refine g_istore_n (i := 3) C [some (.ref (E.2.2.2 + q1)), some (.int x2), some (.int x3), some (.int x28), some (.int x25), some (.int x26), none] dX0_talksTo_76 rfl (by decide) rfl rfl ?_
  exact G_F_X0_talksTo_J77 C (k8) q1 x2 x3 x28 x25 x26 (hk8) eq1 h27
set_option maxHeartbeats 4000000 in
set_option maxRecDepth 100000 in
theorem G_F_X0_talksTo_J34 {E : Ev} {X : Cx} (C : Ok E X cX0_talksTo RX0 7 (some .int) 2) (k8 : Int32 → Int32 → Int32 → Hp → Option (Int32 × Hp)) (q1 : Nat) (x2 : Int32) (x3 : Int32) (x11 : Int32) (x12 : Int32) (x13 : Int32) (y14 : Int32) (hk8 : ∀ (z3 : Int32) (z4 : Int32) (z5 : Int32) (hh : Hp), G E shC X vi 8 [some (.ref (E.2.2.2 + q1)), some (.int x2), some (.int x3), some (.int z3), some (.int z4), some (.int z5), none] [] hh (k8 z3 z4 z5 hh)) (eq1 : isO shC q1 0 = true) (h15 : Hp) : G E shC X vi 34 [some (.ref (E.2.2.2 + q1)), some (.int x2), some (.int x3), some (.int x11), some (.int x12), some (.int x13), none] [.int y14] h15 (F_X0_talksTo_J34 k8 q1 x2 x3 x11 x12 x13 y14 h15) := by
  unfold F_X0_talksTo_J34
  refine g_istore (i := 6) C [some (.ref (E.2.2.2 + q1)), some (.int x2), some (.int x3), some (.int x11), some (.int x12), some (.int x13), some (.int y14)] dX0_talksTo_34 (by decide) rfl rfl ?_
  refine g_aload_n (i := 0) C dX0_talksTo_36 rfl rfl ?_
  refine g_iload_n (i := 1) C dX0_talksTo_37 rfl rfl ?_
  refine g_iload (i := 6) C dX0_talksTo_38 rfl ?_
  refine g_iload (i := 5) C dX0_talksTo_40 rfl ?_
  refine g_aload_n (i := 0) C dX0_talksTo_42 rfl rfl ?_
  refine g_getA C f_X0_37 eq1 dX0_talksTo_43 (fun q16 _ => ?_)
  refine g_iload (i := 5) C dX0_talksTo_46 rfl ?_
  refine g_iald C dX0_talksTo_48 ?_
  refine g_cVi4 C cf_X0_119 cv_X0_catches eq1 (fun r h' e => c_X0_catches E q1 x2 y14 x13 (h15.1 q16 (x13).toNatClampNeg) eq1 h15 e) (by decide) (by decide) (Nat.le_of_ble_eq_true rfl) dX0_talksTo_49 (fun r18 h17 _ => ?_)
  refine g_if_eq C 89 dX0_talksTo_52 (by decide) (fun hc41 => ?_) (fun hc41 => ?_)
  · refine g_iinc (i := 5) (w := 1) C (fun yy => [some (.ref (E.2.2.2 + q1)), some (.int x2), some (.int x3), some (.int x11), some (.int x12), some (.int yy), some (.int y14)]) dX0_talksTo_89 rfl (by decide) rfl (by decide) rfl (fun _ => rfl) (fun x19 => ?_)
    refine g_goto C 8 dX0_talksTo_92 (by decide) ?_
    refine g_drop (i := 6) [some (.ref (E.2.2.2 + q1)), some (.int x2), some (.int x3), some (.int x11), some (.int x12), some (.int x19), none] rfl ?_
    exact hk8 x11 x12 x19 h17
  · refine g_aload_n (i := 0) C dX0_talksTo_55 rfl rfl ?_
    refine g_getA C f_X0_21 eq1 dX0_talksTo_56 (fun q20 _ => ?_)
    refine g_iload_n (i := 1) C dX0_talksTo_59 rfl rfl ?_
    refine g_iald C dX0_talksTo_60 ?_
    refine g_iconst (v := 2) C dX0_talksTo_61 (by decide) ?_
    refine g_icmp_ne C 70 dX0_talksTo_62 (by decide) (fun hc40 => ?_) (fun hc40 => ?_)
    · refine g_iload (i := 4) C dX0_talksTo_65 rfl ?_
      refine g_if_eq C 77 dX0_talksTo_67 (by decide) (fun hc39 => ?_) (fun hc39 => ?_)
      · refine g_drop (i := 6) [some (.ref (E.2.2.2 + q1)), some (.int x2), some (.int x3), some (.int x11), some (.int x12), some (.int x13), none] rfl ?_
        exact G_F_X0_talksTo_J77 C (k8) q1 x2 x3 x11 x12 x13 (hk8) eq1 h17
      · refine g_drop (i := 6) [some (.ref (E.2.2.2 + q1)), some (.int x2), some (.int x3), some (.int x11), some (.int x12), some (.int x13), none] rfl ?_
        exact G_F_X0_talksTo_J70 C (k8) q1 x2 x3 x11 x12 x13 (hk8) eq1 h17
    · refine g_drop (i := 6) [some (.ref (E.2.2.2 + q1)), some (.int x2), some (.int x3), some (.int x11), some (.int x12), some (.int x13), none] rfl ?_
      exact G_F_X0_talksTo_J70 C (k8) q1 x2 x3 x11 x12 x13 (hk8) eq1 h17
set_option maxHeartbeats 4000000 in
set_option maxRecDepth 100000 in
theorem G_F_X0_talksTo_L8 {E : Ev} {X : Cx} (C : Ok E X cX0_talksTo RX0 7 (some .int) 2) (q1 : Nat) (x2 : Int32) (x3 : Int32) (eq1 : isO shC q1 0 = true) : ∀ (N : Nat) (x4 : Int32) (x5 : Int32) (x6 : Int32) (h7 : Hp), G E shC X vi 8 [some (.ref (E.2.2.2 + q1)), some (.int x2), some (.int x3), some (.int x4), some (.int x5), some (.int x6), none] [] h7 (F_X0_talksTo_L8 q1 x2 x3 N x4 x5 x6 h7) := by
  intro N
  induction N with
  | zero =>
    intro _ _ _ _
    exact g_none
  | succ N ih =>
    intro x4 x5 x6 h7
    rw [F_X0_talksTo_L8]
    refine g_iload (i := 5) C dX0_talksTo_8 rfl ?_
    refine g_aload_n (i := 0) C dX0_talksTo_10 rfl rfl ?_
    refine g_getI C f_X0_18 eq1 dX0_talksTo_11 ?_
    refine g_icmp_ge C 95 dX0_talksTo_14 (by decide) (fun hc45 => ?_) (fun hc45 => ?_)
    · refine g_iload_n (i := 3) C dX0_talksTo_95 rfl rfl ?_
      exact g_ireti C dX0_talksTo_96
    · refine g_iload_n (i := 2) C dX0_talksTo_17 rfl rfl ?_
      refine g_bipush (v := -9) C dX0_talksTo_18 (by decide) ?_
      refine g_icmp_ne C 33 dX0_talksTo_20 (by decide) (fun hc44 => ?_) (fun hc44 => ?_)
      · refine g_aload_n (i := 0) C dX0_talksTo_23 rfl rfl ?_
        refine g_iload_n (i := 1) C dX0_talksTo_24 rfl rfl ?_
        refine g_iload (i := 5) C dX0_talksTo_25 rfl ?_
        refine g_cVi2 C cf_X0_116 cv_X0_cellarOn eq1 (fun r h' e => c_X0_cellarOn E q1 x2 x6 eq1 h7 e) (by decide) (by decide) (Nat.le_of_ble_eq_true rfl) dX0_talksTo_27 (fun r43 h42 _ => ?_)
        refine g_goto C 34 dX0_talksTo_30 (by decide) ?_
        exact G_F_X0_talksTo_J34 C (F_X0_talksTo_L8 q1 x2 x3 N) q1 x2 x3 x4 x5 x6 r43 (ih) eq1 h42
      · refine g_iload_n (i := 2) C dX0_talksTo_33 rfl rfl ?_
        exact G_F_X0_talksTo_J34 C (F_X0_talksTo_L8 q1 x2 x3 N) q1 x2 x3 x4 x5 x6 x3 (ih) eq1 h7
set_option maxHeartbeats 4000000 in
set_option maxRecDepth 100000 in
theorem c_X0_talksTo (E : Ev) (o : Nat) (p0 : Int32) (p1 : Int32) (eo : isO shC o 0 = true) (h : Hp) {r : Int32} {h' : Hp} (e : F_X0_talksTo o p0 p1 h = some (r, h')) : Ctr E shC yX0_talksTo cX0_talksTo 7 (some .int) 2 [.ref (E.2.2.2 + o), .int p0, .int p1] h (vi r) h' := by
  refine Ctr.ofG (val := vi) e (by decide) (Nat.le_of_ble_eq_true rfl) [some (.ref (E.2.2.2 + o)), some (.int p0), some (.int p1), none, none, none, none] rfl (fun X C => ?_)
  unfold F_X0_talksTo
  refine g_iconst (v := 0) C dX0_talksTo_0 (by decide) ?_
  refine g_istore_n (i := 3) C [some (.ref (E.2.2.2 + o)), some (.int p0), some (.int p1), some (.int (0 : Int32)), none, none, none] dX0_talksTo_1 rfl (by decide) rfl rfl ?_
  refine g_iconst (v := 1) C dX0_talksTo_2 (by decide) ?_
  refine g_istore (i := 4) C [some (.ref (E.2.2.2 + o)), some (.int p0), some (.int p1), some (.int (0 : Int32)), some (.int (1 : Int32)), none, none] dX0_talksTo_3 (by decide) rfl rfl ?_
  refine g_iconst (v := 0) C dX0_talksTo_5 (by decide) ?_
  refine g_istore (i := 5) C [some (.ref (E.2.2.2 + o)), some (.int p0), some (.int p1), some (.int (0 : Int32)), some (.int (1 : Int32)), some (.int (0 : Int32)), none] dX0_talksTo_6 (by decide) rfl rfl ?_
  exact G_F_X0_talksTo_L8 C o p0 p1 eo FU (0 : Int32) (1 : Int32) (0 : Int32) h
set_option maxHeartbeats 4000000 in
set_option maxRecDepth 100000 in
theorem G_F_X0_talkAt_L10 {E : Ev} {X : Cx} (C : Ok E X cX0_talkAt RX0 5 (some .int) 1) (x2 : Int32) : ∀ (N : Nat) (x3 : Int32) (x4 : Int32) (h5 : Hp), G E shC X vi 10 [none, some (.int x2), none, some (.int x3), some (.int x4)] [] h5 (F_X0_talkAt_L10 x2 N x3 x4 h5) := by
  intro N
  induction N with
  | zero =>
    intro _ _ _
    exact g_none
  | succ N ih =>
    intro x3 x4 h5
    rw [F_X0_talkAt_L10]
    refine g_iload (i := 4) C dX0_talkAt_10 rfl ?_
    refine g_if_lt C 40 dX0_talkAt_12 (by decide) (fun hc11 => ?_) (fun hc11 => ?_)
    · refine g_bipush (v := -9) C dX0_talkAt_40 (by decide) ?_
      exact g_ireti C dX0_talkAt_42
    · refine g_iload_n (i := 1) C dX0_talkAt_15 rfl rfl ?_
      refine g_iload (i := 4) C dX0_talkAt_16 rfl ?_
      refine g_ishr C dX0_talkAt_18 ?_
      refine g_iconst (v := 1) C dX0_talkAt_19 (by decide) ?_
      refine g_iand C dX0_talkAt_20 ?_
      refine g_if_eq C 34 dX0_talkAt_21 (by decide) (fun hc10 => ?_) (fun hc10 => ?_)
      · refine g_iinc (i := 4) (w := -1) C (fun yy => [none, some (.int x2), none, some (.int x3), some (.int yy)]) dX0_talkAt_34 rfl (by decide) rfl (by decide) rfl (fun _ => rfl) (fun x6 => ?_)
        refine g_goto C 10 dX0_talkAt_37 (by decide) ?_
        exact ih x3 x6 h5
      · refine g_iload_n (i := 3) C dX0_talkAt_24 rfl rfl ?_
        refine g_if_ne C 31 dX0_talkAt_25 (by decide) (fun hc9 => ?_) (fun hc9 => ?_)
        · refine g_iload (i := 4) C dX0_talkAt_28 rfl ?_
          exact g_ireti C dX0_talkAt_30
        · refine g_iinc (i := 3) (w := -1) C (fun yy => [none, some (.int x2), none, some (.int yy), some (.int x4)]) dX0_talkAt_31 rfl (by decide) rfl (by decide) rfl (fun _ => rfl) (fun x7 => ?_)
          refine g_iinc (i := 4) (w := -1) C (fun yy => [none, some (.int x2), none, some (.int x7), some (.int yy)]) dX0_talkAt_34 rfl (by decide) rfl (by decide) rfl (fun _ => rfl) (fun x8 => ?_)
          refine g_goto C 10 dX0_talkAt_37 (by decide) ?_
          exact ih x7 x8 h5
set_option maxHeartbeats 4000000 in
set_option maxRecDepth 100000 in
theorem c_X0_talkAt (E : Ev) (o : Nat) (p0 : Int32) (p1 : Int32) (eo : isO shC o 0 = true) (h : Hp) {r : Int32} {h' : Hp} (e : F_X0_talkAt o p0 p1 h = some (r, h')) : Ctr E shC yX0_talkAt cX0_talkAt 5 (some .int) 1 [.ref (E.2.2.2 + o), .int p0, .int p1] h (vi r) h' := by
  refine Ctr.ofG (val := vi) e (by decide) (Nat.le_of_ble_eq_true rfl) [some (.ref (E.2.2.2 + o)), some (.int p0), some (.int p1), none, none] rfl (fun X C => ?_)
  unfold F_X0_talkAt
  refine g_iload_n (i := 2) C dX0_talkAt_0 rfl rfl ?_
  refine g_istore_n (i := 3) C [some (.ref (E.2.2.2 + o)), some (.int p0), some (.int p1), some (.int p1), none] dX0_talkAt_1 rfl (by decide) rfl rfl ?_
  refine g_aload_n (i := 0) C dX0_talkAt_2 rfl rfl ?_
  refine g_getI C f_X0_18 eo dX0_talkAt_3 ?_
  refine g_iconst (v := 1) C dX0_talkAt_6 (by decide) ?_
  refine g_isub C dX0_talkAt_7 ?_
  refine g_topi (fun x1 => ?_)
  refine g_istore (i := 4) C [some (.ref (E.2.2.2 + o)), some (.int p0), some (.int p1), some (.int p1), some (.int x1)] dX0_talkAt_8 (by decide) rfl rfl ?_
  refine g_drop (i := 0) [none, some (.int p0), some (.int p1), some (.int p1), some (.int x1)] rfl ?_
  refine g_drop (i := 2) [none, some (.int p0), none, some (.int p1), some (.int x1)] rfl ?_
  exact G_F_X0_talkAt_L10 C p0 FU p1 x1 h
set_option maxHeartbeats 4000000 in
set_option maxRecDepth 100000 in
theorem G_F_X0_readingsAreSo_L2 {E : Ev} {X : Cx} (C : Ok E X cX0_readingsAreSo RX0 4 (some .boolean) 3) (k29 : Hp → Option (Int32 × Hp)) (q1 : Nat) (hk29 : ∀ (hh : Hp), G E shC X vi 29 [some (.ref (E.2.2.2 + q1)), none, none, none] [] hh (k29 hh)) (eq1 : isO shC q1 0 = true) : ∀ (N : Nat) (x2 : Int32) (h3 : Hp), G E shC X vi 2 [some (.ref (E.2.2.2 + q1)), some (.int x2), none, none] [] h3 (F_X0_readingsAreSo_L2 k29 q1 N x2 h3) := by
  intro N
  induction N with
  | zero =>
    intro _ _
    exact g_none
  | succ N ih =>
    intro x2 h3
    rw [F_X0_readingsAreSo_L2]
    refine g_iload_n (i := 1) C dX0_readingsAreSo_2 rfl rfl ?_
    refine g_aload_n (i := 0) C dX0_readingsAreSo_3 rfl rfl ?_
    refine g_getI C f_X0_15 eq1 dX0_readingsAreSo_4 ?_
    refine g_icmp_ge C 29 dX0_readingsAreSo_7 (by decide) (fun hc9 => ?_) (fun hc9 => ?_)
    · refine g_drop (i := 1) [some (.ref (E.2.2.2 + q1)), none, none, none] rfl ?_
      exact hk29 h3
    · refine g_aload_n (i := 0) C dX0_readingsAreSo_10 rfl rfl ?_
      refine g_getA C f_X0_58 eq1 dX0_readingsAreSo_11 (fun q4 _ => ?_)
      refine g_iload_n (i := 1) C dX0_readingsAreSo_14 rfl rfl ?_
      refine g_aload_n (i := 0) C dX0_readingsAreSo_15 rfl rfl ?_
      refine g_iload_n (i := 1) C dX0_readingsAreSo_16 rfl rfl ?_
      refine g_bipush (v := -9) C dX0_readingsAreSo_17 (by decide) ?_
      refine g_cVi2 C cf_X0_123 cv_X0_talksTo eq1 (fun r h' e => c_X0_talksTo E q1 x2 (-9 : Int32) eq1 h3 e) (by decide) (by decide) (Nat.le_of_ble_eq_true rfl) dX0_readingsAreSo_19 (fun r6 h5 _ => ?_)
      refine g_iast C dX0_readingsAreSo_22 (fun h7 => ?_)
      refine g_iinc (i := 1) (w := 1) C (fun yy => [some (.ref (E.2.2.2 + q1)), some (.int yy), none, none]) dX0_readingsAreSo_23 rfl (by decide) rfl (by decide) rfl (fun _ => rfl) (fun x8 => ?_)
      refine g_goto C 2 dX0_readingsAreSo_26 (by decide) ?_
      exact ih x8 h7
set_option maxHeartbeats 4000000 in
set_option maxRecDepth 100000 in
theorem G_F_X0_readingsAreSo_J87 {E : Ev} {X : Cx} (C : Ok E X cX0_readingsAreSo RX0 4 (some .boolean) 3) (k31 : Int32 → Hp → Option (Int32 × Hp)) (q11 : Nat) (x24 : Int32) (y25 : Int32) (hk31 : ∀ (z1 : Int32) (hh : Hp), G E shC X vi 31 [some (.ref (E.2.2.2 + q11)), some (.int z1), none, none] [] hh (k31 z1 hh)) (eq11 : isO shC q11 0 = true) (h26 : Hp) : G E shC X vi 87 [some (.ref (E.2.2.2 + q11)), some (.int x24), none, none] [.int y25] h26 (F_X0_readingsAreSo_J87 k31 q11 x24 y25 h26) := by
  unfold F_X0_readingsAreSo_J87
  refine g_istore_n (i := 3) C [some (.ref (E.2.2.2 + q11)), some (.int x24), none, some (.int y25)] dX0_readingsAreSo_87 rfl (by decide) rfl rfl ?_
  refine g_iload_n (i := 3) C dX0_readingsAreSo_88 rfl rfl ?_
  refine g_aload_n (i := 0) C dX0_readingsAreSo_89 rfl rfl ?_
  refine g_getO C f_X0_50 eq11 dX0_readingsAreSo_90 (fun q27 _ eq27 => ?_)
  refine g_getA C f_X0_105 eq27 dX0_readingsAreSo_93 (fun q28 _ => ?_)
  refine g_iload_n (i := 1) C dX0_readingsAreSo_96 rfl rfl ?_
  refine g_iald C dX0_readingsAreSo_97 ?_
  refine g_icmp_eq C 103 dX0_readingsAreSo_98 (by decide) (fun hc30 => ?_) (fun hc30 => ?_)
  · refine g_iinc (i := 1) (w := 1) C (fun yy => [some (.ref (E.2.2.2 + q11)), some (.int yy), none, some (.int y25)]) dX0_readingsAreSo_103 rfl (by decide) rfl (by decide) rfl (fun _ => rfl) (fun x29 => ?_)
    refine g_goto C 31 dX0_readingsAreSo_106 (by decide) ?_
    refine g_drop (i := 3) [some (.ref (E.2.2.2 + q11)), some (.int x29), none, none] rfl ?_
    exact hk31 x29 h26
  · refine g_iconst (v := 0) C dX0_readingsAreSo_101 (by decide) ?_
    exact g_iretz C rfl dX0_readingsAreSo_102
set_option maxHeartbeats 4000000 in
set_option maxRecDepth 100000 in
theorem G_F_X0_readingsAreSo_L31 {E : Ev} {X : Cx} (C : Ok E X cX0_readingsAreSo RX0 4 (some .boolean) 3) (q11 : Nat) (eq11 : isO shC q11 0 = true) : ∀ (N : Nat) (x12 : Int32) (h13 : Hp), G E shC X vi 31 [some (.ref (E.2.2.2 + q11)), some (.int x12), none, none] [] h13 (F_X0_readingsAreSo_L31 q11 N x12 h13) := by
  intro N
  induction N with
  | zero =>
    intro _ _
    exact g_none
  | succ N ih =>
    intro x12 h13
    rw [F_X0_readingsAreSo_L31]
    refine g_iload_n (i := 1) C dX0_readingsAreSo_31 rfl rfl ?_
    refine g_aload_n (i := 0) C dX0_readingsAreSo_32 rfl rfl ?_
    refine g_getO C f_X0_50 eq11 dX0_readingsAreSo_33 (fun q14 _ eq14 => ?_)
    refine g_getI C f_X0_61 eq14 dX0_readingsAreSo_36 ?_
    refine g_icmp_ge C 109 dX0_readingsAreSo_39 (by decide) (fun hc32 => ?_) (fun hc32 => ?_)
    · refine g_iconst (v := 1) C dX0_readingsAreSo_109 (by decide) ?_
      exact g_iretz C rfl dX0_readingsAreSo_110
    · refine g_aload_n (i := 0) C dX0_readingsAreSo_42 rfl rfl ?_
      refine g_aload_n (i := 0) C dX0_readingsAreSo_43 rfl rfl ?_
      refine g_getA C f_X0_58 eq11 dX0_readingsAreSo_44 (fun q15 _ => ?_)
      refine g_aload_n (i := 0) C dX0_readingsAreSo_47 rfl rfl ?_
      refine g_getO C f_X0_50 eq11 dX0_readingsAreSo_48 (fun q16 _ eq16 => ?_)
      refine g_getA C f_X0_99 eq16 dX0_readingsAreSo_51 (fun q17 _ => ?_)
      refine g_iload_n (i := 1) C dX0_readingsAreSo_54 rfl rfl ?_
      refine g_iald C dX0_readingsAreSo_55 ?_
      refine g_iald C dX0_readingsAreSo_56 ?_
      refine g_aload_n (i := 0) C dX0_readingsAreSo_57 rfl rfl ?_
      refine g_getO C f_X0_50 eq11 dX0_readingsAreSo_58 (fun q18 _ eq18 => ?_)
      refine g_getA C f_X0_102 eq18 dX0_readingsAreSo_61 (fun q19 _ => ?_)
      refine g_iload_n (i := 1) C dX0_readingsAreSo_64 rfl rfl ?_
      refine g_iald C dX0_readingsAreSo_65 ?_
      refine g_cVi2 C cf_X0_129 cv_X0_talkAt eq11 (fun r h' e => c_X0_talkAt E q11 (h13.1 q15 ((h13.1 q17 (x12).toNatClampNeg)).toNatClampNeg) (h13.1 q19 (x12).toNatClampNeg) eq11 h13 e) (by decide) (by decide) (Nat.le_of_ble_eq_true rfl) dX0_readingsAreSo_66 (fun r21 h20 _ => ?_)
      refine g_istore_n (i := 2) C [some (.ref (E.2.2.2 + q11)), some (.int x12), some (.int r21), none] dX0_readingsAreSo_69 rfl (by decide) rfl rfl ?_
      refine g_iload_n (i := 2) C dX0_readingsAreSo_70 rfl rfl ?_
      refine g_bipush (v := -9) C dX0_readingsAreSo_71 (by decide) ?_
      refine g_icmp_ne C 81 dX0_readingsAreSo_73 (by decide) (fun hc31 => ?_) (fun hc31 => ?_)
      · refine g_bipush (v := -9) C dX0_readingsAreSo_76 (by decide) ?_
        refine g_goto C 87 dX0_readingsAreSo_78 (by decide) ?_
        refine g_drop (i := 2) [some (.ref (E.2.2.2 + q11)), some (.int x12), none, none] rfl ?_
        exact G_F_X0_readingsAreSo_J87 C (F_X0_readingsAreSo_L31 q11 N) q11 x12 (-9 : Int32) (ih) eq11 h20
      · refine g_aload_n (i := 0) C dX0_readingsAreSo_81 rfl rfl ?_
        refine g_getA C f_X0_40 eq11 dX0_readingsAreSo_82 (fun q22 _ => ?_)
        refine g_iload_n (i := 2) C dX0_readingsAreSo_85 rfl rfl ?_
        refine g_iald C dX0_readingsAreSo_86 ?_
        refine g_drop (i := 2) [some (.ref (E.2.2.2 + q11)), some (.int x12), none, none] rfl ?_
        exact G_F_X0_readingsAreSo_J87 C (F_X0_readingsAreSo_L31 q11 N) q11 x12 (h20.1 q22 (r21).toNatClampNeg) (ih) eq11 h20
set_option maxHeartbeats 4000000 in
set_option maxRecDepth 100000 in
theorem c_X0_readingsAreSo (E : Ev) (o : Nat) (eo : isO shC o 0 = true) (h : Hp) {r : Int32} {h' : Hp} (e : F_X0_readingsAreSo o h = some (r, h')) : Ctr E shC yX0_readingsAreSo cX0_readingsAreSo 4 (some .boolean) 3 [.ref (E.2.2.2 + o)] h (vi r) h' := by
  refine Ctr.ofG (val := vi) e (by decide) (Nat.le_of_ble_eq_true rfl) [some (.ref (E.2.2.2 + o)), none, none, none] rfl (fun X C => ?_)
  unfold F_X0_readingsAreSo
  refine g_iconst (v := 0) C dX0_readingsAreSo_0 (by decide) ?_
  refine g_istore_n (i := 1) C [some (.ref (E.2.2.2 + o)), some (.int (0 : Int32)), none, none] dX0_readingsAreSo_1 rfl (by decide) rfl rfl ?_
  refine G_F_X0_readingsAreSo_L2 C _ o (fun h10 => ?_) eo FU (0 : Int32) h
  refine g_iconst (v := 0) C dX0_readingsAreSo_29 (by decide) ?_
  refine g_istore_n (i := 1) C [some (.ref (E.2.2.2 + o)), some (.int (0 : Int32)), none, none] dX0_readingsAreSo_30 rfl (by decide) rfl rfl ?_
  exact G_F_X0_readingsAreSo_L31 C o eo FU (0 : Int32) h10
set_option maxHeartbeats 4000000 in
set_option maxRecDepth 100000 in
theorem G_F_X0_takeText_L34 {E : Ev} {X : Cx} (C : Ok E X cX0_takeText RX0 5 (some .int) 4) (k64 : Hp → Option (Int32 × Hp)) (q8 : Nat) (q9 : Nat) (x10 : Int32) (x11 : Int32) (hk64 : ∀ (hh : Hp), G E shC X vi 64 [some (.ref (E.2.2.2 + q8)), none, none, some (.int x11), none] [] hh (k64 hh)) (eq8 : isO shC q8 0 = true) : ∀ (N : Nat) (x12 : Int32) (h13 : Hp), G E shC X vi 34 [some (.ref (E.2.2.2 + q8)), some (.ref (E.2.2.2 + q9)), some (.int x10), some (.int x11), some (.int x12)] [] h13 (F_X0_takeText_L34 k64 q8 q9 x10 x11 N x12 h13) := by
  intro N
  induction N with
  | zero =>
    intro _ _
    exact g_none
  | succ N ih =>
    intro x12 h13
    rw [F_X0_takeText_L34]
    refine g_iload (i := 4) C dX0_takeText_34 rfl ?_
    refine g_iload_n (i := 3) C dX0_takeText_36 rfl rfl ?_
    refine g_icmp_ge C 64 dX0_takeText_37 (by decide) (fun hc18 => ?_) (fun hc18 => ?_)
    · refine g_drop (i := 1) [some (.ref (E.2.2.2 + q8)), none, some (.int x10), some (.int x11), some (.int x12)] rfl ?_
      refine g_drop (i := 2) [some (.ref (E.2.2.2 + q8)), none, none, some (.int x11), some (.int x12)] rfl ?_
      refine g_drop (i := 4) [some (.ref (E.2.2.2 + q8)), none, none, some (.int x11), none] rfl ?_
      exact hk64 h13
    · refine g_aload_n (i := 0) C dX0_takeText_40 rfl rfl ?_
      refine g_iload (i := 4) C dX0_takeText_41 rfl ?_
      refine g_aload_n (i := 1) C dX0_takeText_43 rfl rfl ?_
      refine g_iload_n (i := 2) C dX0_takeText_44 rfl rfl ?_
      refine g_iload (i := 4) C dX0_takeText_45 rfl ?_
      refine g_iadd C dX0_takeText_47 ?_
      refine g_iald C dX0_takeText_48 ?_
      refine g_cVi2 C cf_X0_64 cv_X0_goesOn eq8 (fun r h' e => c_X0_goesOn E q8 x12 (h13.1 q9 ((x10 + x12)).toNatClampNeg) eq8 h13 e) (by decide) (by decide) (Nat.le_of_ble_eq_true rfl) dX0_takeText_49 (fun r15 h14 _ => ?_)
      refine g_if_ne C 58 dX0_takeText_52 (by decide) (fun hc17 => ?_) (fun hc17 => ?_)
      · refine g_iload (i := 4) C dX0_takeText_55 rfl ?_
        exact g_ireti C dX0_takeText_57
      · refine g_iinc (i := 4) (w := 1) C (fun yy => [some (.ref (E.2.2.2 + q8)), some (.ref (E.2.2.2 + q9)), some (.int x10), some (.int x11), some (.int yy)]) dX0_takeText_58 rfl (by decide) rfl (by decide) rfl (fun _ => rfl) (fun x16 => ?_)
        refine g_goto C 34 dX0_takeText_61 (by decide) ?_
        exact ih x16 h14
set_option maxHeartbeats 4000000 in
set_option maxRecDepth 100000 in
theorem c_X0_takeText (E : Ev) (o : Nat) (p0 : Nat) (p1 : Int32) (p2 : Int32) (eo : isO shC o 0 = true) (h : Hp) {r : Int32} {h' : Hp} (e : F_X0_takeText o p0 p1 p2 h = some (r, h')) : Ctr E shC yX0_takeText cX0_takeText 5 (some .int) 4 [.ref (E.2.2.2 + o), .ref (E.2.2.2 + p0), .int p1, .int p2] h (vi r) h' := by
  refine Ctr.ofG (val := vi) e (by decide) (Nat.le_of_ble_eq_true rfl) [some (.ref (E.2.2.2 + o)), some (.ref (E.2.2.2 + p0)), some (.int p1), some (.int p2), none] rfl (fun X C => ?_)
  unfold F_X0_takeText
  refine g_aload_n (i := 0) C dX0_takeText_0 rfl rfl ?_
  refine g_iconst (v := 0) C dX0_takeText_1 (by decide) ?_
  refine g_putI C f_X0_9 eo dX0_takeText_2 (fun h1 => ?_)
  refine g_aload_n (i := 0) C dX0_takeText_5 rfl rfl ?_
  refine g_iconst (v := 0) C dX0_takeText_6 (by decide) ?_
  refine g_putI C f_X0_15 eo dX0_takeText_7 (fun h2 => ?_)
  refine g_aload_n (i := 0) C dX0_takeText_10 rfl rfl ?_
  refine g_iconst (v := 0) C dX0_takeText_11 (by decide) ?_
  refine g_putI C f_X0_18 eo dX0_takeText_12 (fun h3 => ?_)
  refine g_aload_n (i := 0) C dX0_takeText_15 rfl rfl ?_
  refine g_getO C f_X0_46 eo dX0_takeText_16 (fun q4 _ eq4 => ?_)
  refine g_iconst (v := 0) C dX0_takeText_19 (by decide) ?_
  refine g_putI C f_X0_61 eq4 dX0_takeText_20 (fun h5 => ?_)
  refine g_aload_n (i := 0) C dX0_takeText_23 rfl rfl ?_
  refine g_getO C f_X0_50 eo dX0_takeText_24 (fun q6 _ eq6 => ?_)
  refine g_iconst (v := 0) C dX0_takeText_27 (by decide) ?_
  refine g_putI C f_X0_61 eq6 dX0_takeText_28 (fun h7 => ?_)
  refine g_iconst (v := 0) C dX0_takeText_31 (by decide) ?_
  refine g_istore (i := 4) C [some (.ref (E.2.2.2 + o)), some (.ref (E.2.2.2 + p0)), some (.int p1), some (.int p2), some (.int (0 : Int32))] dX0_takeText_32 (by decide) rfl rfl ?_
  refine G_F_X0_takeText_L34 C _ o p0 p1 p2 (fun h19 => ?_) eo FU (0 : Int32) h7
  refine g_aload_n (i := 0) C dX0_takeText_64 rfl rfl ?_
  refine g_getI C f_X0_18 eo dX0_takeText_65 ?_
  refine g_if_eq C 79 dX0_takeText_68 (by decide) (fun hc24 => ?_) (fun hc24 => ?_)
  · refine g_iload_n (i := 3) C dX0_takeText_79 rfl rfl ?_
    exact g_ireti C dX0_takeText_80
  · refine g_iload_n (i := 3) C dX0_takeText_71 rfl rfl ?_
    refine g_iconst (v := 2) C dX0_takeText_72 (by decide) ?_
    refine g_isub C dX0_takeText_73 ?_
    refine g_iconst (v := 4) C dX0_takeText_74 (by decide) ?_
    refine g_irem C dX0_takeText_75 (by decide) ?_
    refine g_if_eq C 81 dX0_takeText_76 (by decide) (fun hc23 => ?_) (fun hc23 => ?_)
    · refine g_aload_n (i := 0) C dX0_takeText_81 rfl rfl ?_
      refine g_getA C f_X0_31 eo dX0_takeText_82 (fun q20 _ => ?_)
      refine g_bipush (v := -9) C dX0_takeText_85 (by decide) ?_
      refine g_cSv2 C cf_X0_68 aw_12 (fun r h' e => c_J7_fill_53178 E q20 (-9 : Int32) h19 e) (by decide) (by decide) (Nat.le_of_ble_eq_true rfl) dX0_takeText_87 (fun _ h21 _ => ?_)
      refine g_aload_n (i := 0) C dX0_takeText_90 rfl rfl ?_
      refine g_cVv0 C cf_X0_74 cv_X0_carry eo (fun r h' e => c_X0_carry E o eo h21 e) (by decide) (by decide) (Nat.le_of_ble_eq_true rfl) dX0_takeText_91 (fun _ h22 _ => ?_)
      refine g_bipush (v := -9) C dX0_takeText_94 (by decide) ?_
      exact g_ireti C dX0_takeText_96
    · refine g_iload_n (i := 3) C dX0_takeText_79 rfl rfl ?_
      exact g_ireti C dX0_takeText_80
set_option maxHeartbeats 4000000 in
set_option maxRecDepth 100000 in
theorem G_F_X0_wordsDown_L13 {E : Ev} {X : Cx} (C : Ok E X cX0_wordsDown RX0 6 (some .int) 1) (q2 : Nat) (x3 : Int32) (eq2 : isO shC q2 0 = true) : ∀ (N : Nat) (x4 : Int32) (x5 : Int32) (x6 : Int32) (h7 : Hp), G E shC X vi 13 [some (.ref (E.2.2.2 + q2)), some (.int x3), none, some (.int x4), some (.int x5), some (.int x6)] [] h7 (F_X0_wordsDown_L13 q2 x3 N x4 x5 x6 h7) := by
  intro N
  induction N with
  | zero =>
    intro _ _ _ _
    exact g_none
  | succ N ih =>
    intro x4 x5 x6 h7
    rw [F_X0_wordsDown_L13]
    refine g_iload (i := 5) C dX0_wordsDown_13 rfl ?_
    refine g_if_lt C 53 dX0_wordsDown_15 (by decide) (fun hc15 => ?_) (fun hc15 => ?_)
    · refine g_iload_n (i := 3) C dX0_wordsDown_53 rfl rfl ?_
      exact g_ireti C dX0_wordsDown_54
    · refine g_iload (i := 4) C dX0_wordsDown_18 rfl ?_
      refine g_if_le C 53 dX0_wordsDown_20 (by decide) (fun hc14 => ?_) (fun hc14 => ?_)
      · refine g_iload_n (i := 3) C dX0_wordsDown_53 rfl rfl ?_
        exact g_ireti C dX0_wordsDown_54
      · refine g_iload_n (i := 1) C dX0_wordsDown_23 rfl rfl ?_
        refine g_iload (i := 5) C dX0_wordsDown_24 rfl ?_
        refine g_ishr C dX0_wordsDown_26 ?_
        refine g_iconst (v := 1) C dX0_wordsDown_27 (by decide) ?_
        refine g_iand C dX0_wordsDown_28 ?_
        refine g_if_eq C 47 dX0_wordsDown_29 (by decide) (fun hc13 => ?_) (fun hc13 => ?_)
        · refine g_iinc (i := 5) (w := -1) C (fun yy => [some (.ref (E.2.2.2 + q2)), some (.int x3), none, some (.int x4), some (.int x5), some (.int yy)]) dX0_wordsDown_47 rfl (by decide) rfl (by decide) rfl (fun _ => rfl) (fun x8 => ?_)
          refine g_goto C 13 dX0_wordsDown_50 (by decide) ?_
          exact ih x4 x5 x8 h7
        · refine g_iload_n (i := 3) C dX0_wordsDown_32 rfl rfl ?_
          refine g_iconst (v := 1) C dX0_wordsDown_33 (by decide) ?_
          refine g_aload_n (i := 0) C dX0_wordsDown_34 rfl rfl ?_
          refine g_getA C f_X0_40 eq2 dX0_wordsDown_35 (fun q9 _ => ?_)
          refine g_iload (i := 5) C dX0_wordsDown_38 rfl ?_
          refine g_iald C dX0_wordsDown_40 ?_
          refine g_ishl C dX0_wordsDown_41 ?_
          refine g_ior C dX0_wordsDown_42 ?_
          refine g_topi (fun x10 => ?_)
          refine g_istore_n (i := 3) C [some (.ref (E.2.2.2 + q2)), some (.int x3), none, some (.int x10), some (.int x5), some (.int x6)] dX0_wordsDown_43 rfl (by decide) rfl rfl ?_
          refine g_iinc (i := 4) (w := -1) C (fun yy => [some (.ref (E.2.2.2 + q2)), some (.int x3), none, some (.int x10), some (.int yy), some (.int x6)]) dX0_wordsDown_44 rfl (by decide) rfl (by decide) rfl (fun _ => rfl) (fun x11 => ?_)
          refine g_iinc (i := 5) (w := -1) C (fun yy => [some (.ref (E.2.2.2 + q2)), some (.int x3), none, some (.int x10), some (.int x11), some (.int yy)]) dX0_wordsDown_47 rfl (by decide) rfl (by decide) rfl (fun _ => rfl) (fun x12 => ?_)
          refine g_goto C 13 dX0_wordsDown_50 (by decide) ?_
          exact ih x10 x11 x12 h7
set_option maxHeartbeats 4000000 in
set_option maxRecDepth 100000 in
theorem c_X0_wordsDown (E : Ev) (o : Nat) (p0 : Int32) (p1 : Int32) (eo : isO shC o 0 = true) (h : Hp) {r : Int32} {h' : Hp} (e : F_X0_wordsDown o p0 p1 h = some (r, h')) : Ctr E shC yX0_wordsDown cX0_wordsDown 6 (some .int) 1 [.ref (E.2.2.2 + o), .int p0, .int p1] h (vi r) h' := by
  refine Ctr.ofG (val := vi) e (by decide) (Nat.le_of_ble_eq_true rfl) [some (.ref (E.2.2.2 + o)), some (.int p0), some (.int p1), none, none, none] rfl (fun X C => ?_)
  unfold F_X0_wordsDown
  refine g_iconst (v := 0) C dX0_wordsDown_0 (by decide) ?_
  refine g_istore_n (i := 3) C [some (.ref (E.2.2.2 + o)), some (.int p0), some (.int p1), some (.int (0 : Int32)), none, none] dX0_wordsDown_1 rfl (by decide) rfl rfl ?_
  refine g_iload_n (i := 2) C dX0_wordsDown_2 rfl rfl ?_
  refine g_istore (i := 4) C [some (.ref (E.2.2.2 + o)), some (.int p0), some (.int p1), some (.int (0 : Int32)), some (.int p1), none] dX0_wordsDown_3 (by decide) rfl rfl ?_
  refine g_aload_n (i := 0) C dX0_wordsDown_5 rfl rfl ?_
  refine g_getI C f_X0_18 eo dX0_wordsDown_6 ?_
  refine g_iconst (v := 1) C dX0_wordsDown_9 (by decide) ?_
  refine g_isub C dX0_wordsDown_10 ?_
  refine g_topi (fun x1 => ?_)
  refine g_istore (i := 5) C [some (.ref (E.2.2.2 + o)), some (.int p0), some (.int p1), some (.int (0 : Int32)), some (.int p1), some (.int x1)] dX0_wordsDown_11 (by decide) rfl rfl ?_
  refine g_drop (i := 2) [some (.ref (E.2.2.2 + o)), some (.int p0), none, some (.int (0 : Int32)), some (.int p1), some (.int x1)] rfl ?_
  exact G_F_X0_wordsDown_L13 C o p0 eo FU (0 : Int32) p1 x1 h
set_option maxHeartbeats 4000000 in
set_option maxRecDepth 100000 in
theorem c_X0_wordsTo (E : Ev) (o : Nat) (p0 : Int32) (p1 : Int32) (eo : isO shC o 0 = true) (h : Hp) {r : Int32} {h' : Hp} (e : F_X0_wordsTo o p0 p1 h = some (r, h')) : Ctr E shC yX0_wordsTo cX0_wordsTo 3 (some .int) 3 [.ref (E.2.2.2 + o), .int p0, .int p1] h (vi r) h' := by
  refine Ctr.ofG (val := vi) e (by decide) (Nat.le_of_ble_eq_true rfl) [some (.ref (E.2.2.2 + o)), some (.int p0), some (.int p1)] rfl (fun X C => ?_)
  unfold F_X0_wordsTo
  refine g_aload_n (i := 0) C dX0_wordsTo_0 rfl rfl ?_
  refine g_aload_n (i := 0) C dX0_wordsTo_1 rfl rfl ?_
  refine g_iload_n (i := 1) C dX0_wordsTo_2 rfl rfl ?_
  refine g_iload_n (i := 2) C dX0_wordsTo_3 rfl rfl ?_
  refine g_cVi2 C cf_X0_123 cv_X0_talksTo eo (fun r h' e => c_X0_talksTo E o p0 p1 eo h e) (by decide) (by decide) (Nat.le_of_ble_eq_true rfl) dX0_wordsTo_4 (fun r2 h1 _ => ?_)
  refine g_bipush (v := 8) C dX0_wordsTo_7 (by decide) ?_
  refine g_cVi2 C cf_X0_126 cv_X0_wordsDown eo (fun r h' e => c_X0_wordsDown E o r2 (8 : Int32) eo h1 e) (by decide) (by decide) (Nat.le_of_ble_eq_true rfl) dX0_wordsTo_9 (fun r4 h3 _ => ?_)
  exact g_ireti C dX0_wordsTo_12
set_option maxHeartbeats 4000000 in
set_option maxRecDepth 100000 in
theorem c_X1_begin (E : Ev) (o : Nat) (p0 : Int32) (p1 : Int32) (eo : isO shC o 1 = true) (h : Hp) {r : Unit} {h' : Hp} (e : F_X1_begin o p0 p1 h = some (r, h')) : Ctr E shC yX1_begin cX1_begin 3 none 2 [.ref (E.2.2.2 + o), .int p0, .int p1] h (vv r) h' := by
  refine Ctr.ofG (val := vv) e (by decide) (Nat.le_of_ble_eq_true rfl) [some (.ref (E.2.2.2 + o)), some (.int p0), some (.int p1)] rfl (fun X C => ?_)
  unfold F_X1_begin
  refine g_aload_n (i := 0) C dX1_begin_0 rfl rfl ?_
  refine g_iload_n (i := 1) C dX1_begin_1 rfl rfl ?_
  refine g_putI C f_X1_15 eo dX1_begin_2 (fun h1 => ?_)
  refine g_aload_n (i := 0) C dX1_begin_5 rfl rfl ?_
  refine g_iload_n (i := 2) C dX1_begin_6 rfl rfl ?_
  refine g_putI C f_X1_19 eo dX1_begin_7 (fun h2 => ?_)
  refine g_aload_n (i := 0) C dX1_begin_10 rfl rfl ?_
  refine g_getA C f_X1_9 eo dX1_begin_11 (fun q3 _ => ?_)
  refine g_iconst (v := 0) C dX1_begin_14 (by decide) ?_
  refine g_cSv2 C cf_X1_22 aw_12 (fun r h' e => c_J7_fill_53178 E q3 (0 : Int32) h2 e) (by decide) (by decide) (Nat.le_of_ble_eq_true rfl) dX1_begin_15 (fun _ h4 _ => ?_)
  exact g_vret C dX1_begin_18
set_option maxHeartbeats 4000000 in
set_option maxRecDepth 100000 in
theorem c_X1_cutToLane (E : Ev) (o : Nat) (p0 : Int32) (eo : isO shC o 1 = true) (h : Hp) {r : Int32} {h' : Hp} (e : F_X1_cutToLane o p0 h = some (r, h')) : Ctr E shC yX1_cutToLane cX1_cutToLane 2 (some .int) 1 [.ref (E.2.2.2 + o), .int p0] h (vi r) h' := by
  refine Ctr.ofG (val := vi) e (by decide) (Nat.le_of_ble_eq_true rfl) [some (.ref (E.2.2.2 + o)), some (.int p0)] rfl (fun X C => ?_)
  unfold F_X1_cutToLane
  refine g_aload_n (i := 0) C dX1_cutToLane_0 rfl rfl ?_
  refine g_getI C f_X1_15 eo dX1_cutToLane_1 ?_
  refine g_if (fun hs4_0 => ?_) (fun hs4_0 => ?_)
  · refine g_lookup C 32 (off := 28) dX1_cutToLane_4 (by decide) (by rw [hs4_0]; rfl) (by decide) ?_
    refine g_iload_n (i := 1) C dX1_cutToLane_32 rfl rfl ?_
    refine g_i2b C dX1_cutToLane_33 ?_
    exact g_ireti C dX1_cutToLane_34
  · refine g_if (fun hs4_1 => ?_) (fun hs4_1 => ?_)
    · refine g_lookup C 35 (off := 31) dX1_cutToLane_4 (by decide) (by rw [hs4_1]; rfl) (by decide) ?_
      refine g_iload_n (i := 1) C dX1_cutToLane_35 rfl rfl ?_
      refine g_i2s C dX1_cutToLane_36 ?_
      exact g_ireti C dX1_cutToLane_37
    · refine g_lookup C 38 (off := 34) dX1_cutToLane_4 (by decide) (by rw [lv_osw (k := 0) hs4_0 (by decide), lv_osw (k := 1) hs4_1 (by decide)]; rfl) (by decide) ?_
      refine g_iload_n (i := 1) C dX1_cutToLane_38 rfl rfl ?_
      exact g_ireti C dX1_cutToLane_39
set_option maxHeartbeats 4000000 in
set_option maxRecDepth 100000 in
theorem c_X1_hasNothing (E : Ev) (o : Nat) (eo : isO shC o 1 = true) (h : Hp) {r : Int32} {h' : Hp} (e : F_X1_hasNothing o h = some (r, h')) : Ctr E shC yX1_hasNothing cX1_hasNothing 1 (some .boolean) 1 [.ref (E.2.2.2 + o)] h (vi r) h' := by
  refine Ctr.ofG (val := vi) e (by decide) (Nat.le_of_ble_eq_true rfl) [some (.ref (E.2.2.2 + o))] rfl (fun X C => ?_)
  unfold F_X1_hasNothing
  refine g_aload_n (i := 0) C dX1_hasNothing_0 rfl rfl ?_
  refine g_getI C f_X1_19 eo dX1_hasNothing_1 ?_
  refine g_if_ge C 11 dX1_hasNothing_4 (by decide) (fun hc1 => ?_) (fun hc1 => ?_)
  · refine g_iconst (v := 0) C dX1_hasNothing_11 (by decide) ?_
    exact g_iretz C rfl dX1_hasNothing_12
  · refine g_iconst (v := 1) C dX1_hasNothing_7 (by decide) ?_
    refine g_goto C 12 dX1_hasNothing_8 (by decide) ?_
    exact g_iretz C rfl dX1_hasNothing_12
set_option maxHeartbeats 4000000 in
set_option maxRecDepth 100000 in
theorem c_X1_empty (E : Ev) (o : Nat) (eo : isO shC o 1 = true) (h : Hp) {r : Int32} {h' : Hp} (e : F_X1_empty o h = some (r, h')) : Ctr E shC yX1_empty cX1_empty 2 (some .boolean) 2 [.ref (E.2.2.2 + o)] h (vi r) h' := by
  refine Ctr.ofG (val := vi) e (by decide) (Nat.le_of_ble_eq_true rfl) [some (.ref (E.2.2.2 + o)), none] rfl (fun X C => ?_)
  unfold F_X1_empty
  refine g_aload_n (i := 0) C dX1_empty_0 rfl rfl ?_
  refine g_cVi0 C cf_X1_28 cv_X1_hasNothing eo (fun r h' e => c_X1_hasNothing E o eo h e) (by decide) (by decide) (Nat.le_of_ble_eq_true rfl) dX1_empty_1 (fun r2 h1 _ => ?_)
  refine g_if_ne C 11 dX1_empty_4 (by decide) (fun hc5 => ?_) (fun hc5 => ?_)
  · refine g_iconst (v := 1) C dX1_empty_7 (by decide) ?_
    refine g_goto C 12 dX1_empty_8 (by decide) ?_
    refine g_istore_n (i := 1) C [some (.ref (E.2.2.2 + o)), some (.int (1 : Int32))] dX1_empty_12 rfl (by decide) rfl rfl ?_
    refine g_aload_n (i := 0) C dX1_empty_13 rfl rfl ?_
    refine g_bipush (v := -9) C dX1_empty_14 (by decide) ?_
    refine g_putI C f_X1_19 eo dX1_empty_16 (fun h4 => ?_)
    refine g_iload_n (i := 1) C dX1_empty_19 rfl rfl ?_
    exact g_iretz C rfl dX1_empty_20
  · refine g_iconst (v := 0) C dX1_empty_11 (by decide) ?_
    refine g_istore_n (i := 1) C [some (.ref (E.2.2.2 + o)), some (.int (0 : Int32))] dX1_empty_12 rfl (by decide) rfl rfl ?_
    refine g_aload_n (i := 0) C dX1_empty_13 rfl rfl ?_
    refine g_bipush (v := -9) C dX1_empty_14 (by decide) ?_
    refine g_putI C f_X1_19 eo dX1_empty_16 (fun h3 => ?_)
    refine g_iload_n (i := 1) C dX1_empty_19 rfl rfl ?_
    exact g_iretz C rfl dX1_empty_20
set_option maxHeartbeats 4000000 in
set_option maxRecDepth 100000 in
theorem c_X1_faultAs (E : Ev) (o : Nat) (p0 : Int32) (eo : isO shC o 1 = true) (h : Hp) {r : Int32} {h' : Hp} (e : F_X1_faultAs o p0 h = some (r, h')) : Ctr E shC yX1_faultAs cX1_faultAs 2 (some .int) 2 [.ref (E.2.2.2 + o), .int p0] h (vi r) h' := by
  refine Ctr.ofG (val := vi) e (by decide) (Nat.le_of_ble_eq_true rfl) [some (.ref (E.2.2.2 + o)), some (.int p0)] rfl (fun X C => ?_)
  unfold F_X1_faultAs
  refine g_aload_n (i := 0) C dX1_faultAs_0 rfl rfl ?_
  refine g_cVi0 C cf_X1_28 cv_X1_hasNothing eo (fun r h' e => c_X1_hasNothing E o eo h e) (by decide) (by decide) (Nat.le_of_ble_eq_true rfl) dX1_faultAs_1 (fun r2 h1 _ => ?_)
  refine g_if_eq C 9 dX1_faultAs_4 (by decide) (fun hc4 => ?_) (fun hc4 => ?_)
  · refine g_aload_n (i := 0) C dX1_faultAs_9 rfl rfl ?_
    refine g_getI C f_X1_15 eo dX1_faultAs_10 ?_
    refine g_iload_n (i := 1) C dX1_faultAs_13 rfl rfl ?_
    refine g_icmp_ne C 21 dX1_faultAs_14 (by decide) (fun hc3 => ?_) (fun hc3 => ?_)
    · refine g_iconst (v := 0) C dX1_faultAs_17 (by decide) ?_
      refine g_goto C 22 dX1_faultAs_18 (by decide) ?_
      exact g_ireti C dX1_faultAs_22
    · refine g_iconst (v := 2) C dX1_faultAs_21 (by decide) ?_
      exact g_ireti C dX1_faultAs_22
  · refine g_iconst (v := 1) C dX1_faultAs_7 (by decide) ?_
    exact g_ireti C dX1_faultAs_8
set_option maxHeartbeats 4000000 in
set_option maxRecDepth 100000 in
theorem c_X1_hasCells (E : Ev) (o : Nat) (p0 : Int32) (p1 : Int32) (eo : isO shC o 1 = true) (h : Hp) {r : Int32} {h' : Hp} (e : F_X1_hasCells o p0 p1 h = some (r, h')) : Ctr E shC yX1_hasCells cX1_hasCells 3 (some .boolean) 1 [.ref (E.2.2.2 + o), .int p0, .int p1] h (vi r) h' := by
  refine Ctr.ofG (val := vi) e (by decide) (Nat.le_of_ble_eq_true rfl) [some (.ref (E.2.2.2 + o)), some (.int p0), some (.int p1)] rfl (fun X C => ?_)
  unfold F_X1_hasCells
  refine g_iload_n (i := 1) C dX1_hasCells_0 rfl rfl ?_
  refine g_if_lt C 30 dX1_hasCells_1 (by decide) (fun hc4 => ?_) (fun hc4 => ?_)
  · refine g_iconst (v := 0) C dX1_hasCells_30 (by decide) ?_
    exact g_iretz C rfl dX1_hasCells_31
  · refine g_iload_n (i := 1) C dX1_hasCells_4 rfl rfl ?_
    refine g_aload_n (i := 0) C dX1_hasCells_5 rfl rfl ?_
    refine g_getI C f_X1_19 eo dX1_hasCells_6 ?_
    refine g_icmp_gt C 30 dX1_hasCells_9 (by decide) (fun hc3 => ?_) (fun hc3 => ?_)
    · refine g_iconst (v := 0) C dX1_hasCells_30 (by decide) ?_
      exact g_iretz C rfl dX1_hasCells_31
    · refine g_iload_n (i := 2) C dX1_hasCells_12 rfl rfl ?_
      refine g_if_lt C 30 dX1_hasCells_13 (by decide) (fun hc2 => ?_) (fun hc2 => ?_)
      · refine g_iconst (v := 0) C dX1_hasCells_30 (by decide) ?_
        exact g_iretz C rfl dX1_hasCells_31
      · refine g_iload_n (i := 2) C dX1_hasCells_16 rfl rfl ?_
        refine g_aload_n (i := 0) C dX1_hasCells_17 rfl rfl ?_
        refine g_getI C f_X1_19 eo dX1_hasCells_18 ?_
        refine g_iload_n (i := 1) C dX1_hasCells_21 rfl rfl ?_
        refine g_isub C dX1_hasCells_22 ?_
        refine g_icmp_gt C 30 dX1_hasCells_23 (by decide) (fun hc1 => ?_) (fun hc1 => ?_)
        · refine g_iconst (v := 0) C dX1_hasCells_30 (by decide) ?_
          exact g_iretz C rfl dX1_hasCells_31
        · refine g_iconst (v := 1) C dX1_hasCells_26 (by decide) ?_
          refine g_goto C 31 dX1_hasCells_27 (by decide) ?_
          exact g_iretz C rfl dX1_hasCells_31
set_option maxHeartbeats 4000000 in
set_option maxRecDepth 100000 in
theorem G_F_X2_shelveFrom_L43 {E : Ev} {X : Cx} {RN : Nat} (C : Ok E X cX2_shelveFrom RX2 4 none (2 + RN + 1)) (rec : Nat → Int32 → Int32 → Hp → Option (Unit × Hp)) (hrec : ∀ (o : Nat) (p0 : Int32) (p1 : Int32) (hh : Hp) (r : Unit) (h' : Hp), isO shC o 2 = true → rec o p0 p1 hh = some (r, h') → Ctr E shC yX2_shelveFrom cX2_shelveFrom 4 none (2 + RN) [.ref (E.2.2.2 + o), .int p0, .int p1] hh (vv r) h') (q1 : Nat) (x2 : Int32) (x3 : Int32) (eq1 : isO shC q1 2 = true) : ∀ (N : Nat) (x4 : Int32) (h5 : Hp), G E shC X vv 43 [some (.ref (E.2.2.2 + q1)), some (.int x2), some (.int x3), some (.int x4)] [] h5 (F_X2_shelveFrom_L43 rec q1 x2 x3 N x4 h5) := by
  intro N
  induction N with
  | zero =>
    intro _ _
    exact g_none
  | succ N ih =>
    intro x4 h5
    rw [F_X2_shelveFrom_L43]
    refine g_iload_n (i := 3) C dX2_shelveFrom_43 rfl rfl ?_
    refine g_aload_n (i := 0) C dX2_shelveFrom_44 rfl rfl ?_
    refine g_getI C f_X2_30 eq1 dX2_shelveFrom_45 ?_
    refine g_icmp_ge C 81 dX2_shelveFrom_48 (by decide) (fun hc12 => ?_) (fun hc12 => ?_)
    · exact g_vret C dX2_shelveFrom_81
    · refine g_aload_n (i := 0) C dX2_shelveFrom_51 rfl rfl ?_
      refine g_getA C f_X2_24 eq1 dX2_shelveFrom_52 (fun q6 _ => ?_)
      refine g_iload_n (i := 1) C dX2_shelveFrom_55 rfl rfl ?_
      refine g_iload_n (i := 3) C dX2_shelveFrom_56 rfl rfl ?_
      refine g_iast C dX2_shelveFrom_57 (fun h7 => ?_)
      refine g_aload_n (i := 0) C dX2_shelveFrom_58 rfl rfl ?_
      refine g_iload_n (i := 1) C dX2_shelveFrom_59 rfl rfl ?_
      refine g_iconst (v := 1) C dX2_shelveFrom_60 (by decide) ?_
      refine g_iadd C dX2_shelveFrom_61 ?_
      refine g_iload_n (i := 2) C dX2_shelveFrom_62 rfl rfl ?_
      refine g_aload_n (i := 0) C dX2_shelveFrom_63 rfl rfl ?_
      refine g_getA C f_X2_21 eq1 dX2_shelveFrom_64 (fun q8 _ => ?_)
      refine g_iload_n (i := 1) C dX2_shelveFrom_67 rfl rfl ?_
      refine g_aald C 3 (Or.inr rfl) dX2_shelveFrom_68 (fun q9 _ => ?_)
      refine g_iload_n (i := 3) C dX2_shelveFrom_69 rfl rfl ?_
      refine g_iald C dX2_shelveFrom_70 ?_
      refine g_ior C dX2_shelveFrom_71 ?_
      refine g_cVv2 C cf_X2_41 cv_X2_shelveFrom eq1 (fun r h' e => hrec q1 (x2 + (1 : Int32)) (x3 ||| (h7.1 q9 (x4).toNatClampNeg)) h7 r h' eq1 e) (by omega) (by decide) (Nat.le_of_ble_eq_true rfl) dX2_shelveFrom_72 (fun _ h10 _ => ?_)
      refine g_iinc (i := 3) (w := 1) C (fun yy => [some (.ref (E.2.2.2 + q1)), some (.int x2), some (.int x3), some (.int yy)]) dX2_shelveFrom_75 rfl (by decide) rfl (by decide) rfl (fun _ => rfl) (fun x11 => ?_)
      refine g_goto C 43 dX2_shelveFrom_78 (by decide) ?_
      exact ih x11 h10
set_option maxHeartbeats 4000000 in
set_option maxRecDepth 100000 in
theorem c_X2_shelveFrom (E : Ev) : ∀ (N : Nat) (o : Nat) (p0 : Int32) (p1 : Int32) (eo : isO shC o 2 = true) (h : Hp) {r : Unit} {h' : Hp} (e : F_X2_shelveFrom N o p0 p1 h = some (r, h')), Ctr E shC yX2_shelveFrom cX2_shelveFrom 4 none (2 + N) [.ref (E.2.2.2 + o), .int p0, .int p1] h (vv r) h' := by
  intro N
  induction N with
  | zero =>
    intro o p0 p1 eo h r h' e
    rw [F_X2_shelveFrom] at e
    cases e
  | succ RN ih =>
    intro o p0 p1 eo h r h' e
    rw [F_X2_shelveFrom] at e
    have hrec := fun o p0 p1 (hh : Hp) (r : Unit) (h' : Hp) (eo : isO shC o 2 = true) (e : F_X2_shelveFrom RN o p0 p1 hh = some (r, h')) => ih o p0 p1 eo hh e
    generalize F_X2_shelveFrom RN = rec at e hrec
    refine Ctr.ofG (val := vv) e (by decide) (Nat.le_of_ble_eq_true rfl) [some (.ref (E.2.2.2 + o)), some (.int p0), some (.int p1), none] rfl (fun X C => ?_)
    unfold F_X2_shelveFrom_B
    refine g_iload_n (i := 1) C dX2_shelveFrom_0 rfl rfl ?_
    refine g_aload_n (i := 0) C dX2_shelveFrom_1 rfl rfl ?_
    refine g_getI C f_X2_27 eo dX2_shelveFrom_2 ?_
    refine g_icmp_lt C 41 dX2_shelveFrom_5 (by decide) (fun hc20 => ?_) (fun hc20 => ?_)
    · refine g_iconst (v := 0) C dX2_shelveFrom_41 (by decide) ?_
      refine g_istore_n (i := 3) C [some (.ref (E.2.2.2 + o)), some (.int p0), some (.int p1), some (.int (0 : Int32))] dX2_shelveFrom_42 rfl (by decide) rfl rfl ?_
      exact G_F_X2_shelveFrom_L43 C rec hrec o p0 p1 eo FU (0 : Int32) h
    · refine g_iload_n (i := 2) C dX2_shelveFrom_8 rfl rfl ?_
      refine g_cSi1 C cf_X2_45 aw_17 (fun r h' e => c_J6_bitCount_0f7a4 E p1 h e) (by omega) (by decide) (Nat.le_of_ble_eq_true rfl) dX2_shelveFrom_9 (fun r14 h13 _ => ?_)
      refine g_istore_n (i := 3) C [some (.ref (E.2.2.2 + o)), some (.int p0), some (.int p1), some (.int r14)] dX2_shelveFrom_12 rfl (by decide) rfl rfl ?_
      refine g_iload_n (i := 3) C dX2_shelveFrom_13 rfl rfl ?_
      refine g_aload_n (i := 0) C dX2_shelveFrom_14 rfl rfl ?_
      refine g_getI C f_X2_15 eo dX2_shelveFrom_15 ?_
      refine g_icmp_le C 40 dX2_shelveFrom_18 (by decide) (fun hc19 => ?_) (fun hc19 => ?_)
      · exact g_vret C dX2_shelveFrom_40
      · refine g_aload_n (i := 0) C dX2_shelveFrom_21 rfl rfl ?_
        refine g_iload_n (i := 3) C dX2_shelveFrom_22 rfl rfl ?_
        refine g_putI C f_X2_15 eo dX2_shelveFrom_23 (fun h15 => ?_)
        refine g_aload_n (i := 0) C dX2_shelveFrom_26 rfl rfl ?_
        refine g_getA C f_X2_24 eo dX2_shelveFrom_27 (fun q16 _ => ?_)
        refine g_iconst (v := 0) C dX2_shelveFrom_30 (by decide) ?_
        refine g_aload_n (i := 0) C dX2_shelveFrom_31 rfl rfl ?_
        refine g_getA C f_X2_9 eo dX2_shelveFrom_32 (fun q17 _ => ?_)
        refine g_iconst (v := 0) C dX2_shelveFrom_35 (by decide) ?_
        refine g_iconst (v := 4) C dX2_shelveFrom_36 (by decide) ?_
        refine g_copy C ⟨aw_13, aw_14, aw_15, aw_16⟩ (by omega) (Nat.le_of_ble_eq_true rfl) dX2_shelveFrom_37 (fun h18 => ?_)
        exact g_vret C dX2_shelveFrom_40
set_option maxHeartbeats 4000000 in
set_option maxRecDepth 100000 in
theorem G_F_X2_find_L34 {E : Ev} {X : Cx} (C : Ok E X cX2_find RX2 4 none 11) (k62 : Hp → Option (Unit × Hp)) (q8 : Nat) (q9 : Nat) (x10 : Int32) (hk62 : ∀ (hh : Hp), G E shC X vv 62 [some (.ref (E.2.2.2 + q8)), some (.ref (E.2.2.2 + q9)), some (.int x10), none] [] hh (k62 hh)) (eq8 : isO shC q8 2 = true) (eq9 : isO shC q9 0 = true) : ∀ (N : Nat) (x11 : Int32) (h12 : Hp), G E shC X vv 34 [some (.ref (E.2.2.2 + q8)), some (.ref (E.2.2.2 + q9)), some (.int x10), some (.int x11)] [] h12 (F_X2_find_L34 k62 q8 q9 x10 N x11 h12) := by
  intro N
  induction N with
  | zero =>
    intro _ _
    exact g_none
  | succ N ih =>
    intro x11 h12
    rw [F_X2_find_L34]
    refine g_iload_n (i := 3) C dX2_find_34 rfl rfl ?_
    refine g_aload_n (i := 0) C dX2_find_35 rfl rfl ?_
    refine g_getI C f_X2_30 eq8 dX2_find_36 ?_
    refine g_icmp_ge C 62 dX2_find_39 (by decide) (fun hc19 => ?_) (fun hc19 => ?_)
    · refine g_drop (i := 3) [some (.ref (E.2.2.2 + q8)), some (.ref (E.2.2.2 + q9)), some (.int x10), none] rfl ?_
      exact hk62 h12
    · refine g_aload_n (i := 0) C dX2_find_42 rfl rfl ?_
      refine g_getA C f_X2_21 eq8 dX2_find_43 (fun q13 _ => ?_)
      refine g_iload_n (i := 2) C dX2_find_46 rfl rfl ?_
      refine g_aald C 3 (Or.inr rfl) dX2_find_47 (fun q14 _ => ?_)
      refine g_iload_n (i := 3) C dX2_find_48 rfl rfl ?_
      refine g_aload_n (i := 1) C dX2_find_49 rfl rfl ?_
      refine g_iload_n (i := 2) C dX2_find_50 rfl rfl ?_
      refine g_iload_n (i := 3) C dX2_find_51 rfl rfl ?_
      refine g_cVi2 C cf_X2_37 cv_X0_wordsTo eq9 (fun r h' e => c_X0_wordsTo E q9 x10 x11 eq9 h12 e) (by decide) (by decide) (Nat.le_of_ble_eq_true rfl) dX2_find_52 (fun r16 h15 _ => ?_)
      refine g_iast C dX2_find_55 (fun h17 => ?_)
      refine g_iinc (i := 3) (w := 1) C (fun yy => [some (.ref (E.2.2.2 + q8)), some (.ref (E.2.2.2 + q9)), some (.int x10), some (.int yy)]) dX2_find_56 rfl (by decide) rfl (by decide) rfl (fun _ => rfl) (fun x18 => ?_)
      refine g_goto C 34 dX2_find_59 (by decide) ?_
      exact ih x18 h17
set_option maxHeartbeats 4000000 in
set_option maxRecDepth 100000 in
theorem G_F_X2_find_L24 {E : Ev} {X : Cx} (C : Ok E X cX2_find RX2 4 none 11) (k68 : Hp → Option (Unit × Hp)) (q4 : Nat) (q5 : Nat) (hk68 : ∀ (hh : Hp), G E shC X vv 68 [some (.ref (E.2.2.2 + q4)), none, none, none] [] hh (k68 hh)) (eq4 : isO shC q4 2 = true) (eq5 : isO shC q5 0 = true) : ∀ (N : Nat) (x6 : Int32) (h7 : Hp), G E shC X vv 24 [some (.ref (E.2.2.2 + q4)), some (.ref (E.2.2.2 + q5)), some (.int x6), none] [] h7 (F_X2_find_L24 k68 q4 q5 N x6 h7) := by
  intro N
  induction N with
  | zero =>
    intro _ _
    exact g_none
  | succ N ih =>
    intro x6 h7
    rw [F_X2_find_L24]
    refine g_iload_n (i := 2) C dX2_find_24 rfl rfl ?_
    refine g_aload_n (i := 0) C dX2_find_25 rfl rfl ?_
    refine g_getI C f_X2_27 eq4 dX2_find_26 ?_
    refine g_icmp_ge C 68 dX2_find_29 (by decide) (fun hc22 => ?_) (fun hc22 => ?_)
    · refine g_drop (i := 1) [some (.ref (E.2.2.2 + q4)), none, some (.int x6), none] rfl ?_
      refine g_drop (i := 2) [some (.ref (E.2.2.2 + q4)), none, none, none] rfl ?_
      exact hk68 h7
    · refine g_iconst (v := 0) C dX2_find_32 (by decide) ?_
      refine g_istore_n (i := 3) C [some (.ref (E.2.2.2 + q4)), some (.ref (E.2.2.2 + q5)), some (.int x6), some (.int (0 : Int32))] dX2_find_33 rfl (by decide) rfl rfl ?_
      refine G_F_X2_find_L34 C _ q4 q5 x6 (fun h20 => ?_) eq4 eq5 FU (0 : Int32) h7
      refine g_iinc (i := 2) (w := 1) C (fun yy => [some (.ref (E.2.2.2 + q4)), some (.ref (E.2.2.2 + q5)), some (.int yy), none]) dX2_find_62 rfl (by decide) rfl (by decide) rfl (fun _ => rfl) (fun x21 => ?_)
      refine g_goto C 24 dX2_find_65 (by decide) ?_
      exact ih x21 h20
set_option maxHeartbeats 4000000 in
set_option maxRecDepth 100000 in
theorem c_X2_find (E : Ev) (o : Nat) (p0 : Nat) (eo : isO shC o 2 = true) (ep0 : isO shC p0 0 = true) (h : Hp) {r : Unit} {h' : Hp} (e : F_X2_find o p0 h = some (r, h')) : Ctr E shC yX2_find cX2_find 4 none 11 [.ref (E.2.2.2 + o), .ref (E.2.2.2 + p0)] h (vv r) h' := by
  refine Ctr.ofG (val := vv) e (by decide) (Nat.le_of_ble_eq_true rfl) [some (.ref (E.2.2.2 + o)), some (.ref (E.2.2.2 + p0)), none, none] rfl (fun X C => ?_)
  unfold F_X2_find
  refine g_aload_n (i := 0) C dX2_find_0 rfl rfl ?_
  refine g_aload_n (i := 1) C dX2_find_1 rfl rfl ?_
  refine g_getI C f_X2_33 ep0 dX2_find_2 ?_
  refine g_putI C f_X2_27 eo dX2_find_5 (fun h1 => ?_)
  refine g_aload_n (i := 0) C dX2_find_8 rfl rfl ?_
  refine g_aload_n (i := 1) C dX2_find_9 rfl rfl ?_
  refine g_getI C f_X2_36 ep0 dX2_find_10 ?_
  refine g_putI C f_X2_30 eo dX2_find_13 (fun h2 => ?_)
  refine g_aload_n (i := 0) C dX2_find_16 rfl rfl ?_
  refine g_bipush (v := -9) C dX2_find_17 (by decide) ?_
  refine g_putI C f_X2_15 eo dX2_find_19 (fun h3 => ?_)
  refine g_iconst (v := 0) C dX2_find_22 (by decide) ?_
  refine g_istore_n (i := 2) C [some (.ref (E.2.2.2 + o)), some (.ref (E.2.2.2 + p0)), some (.int (0 : Int32)), none] dX2_find_23 rfl (by decide) rfl rfl ?_
  refine G_F_X2_find_L24 C _ o p0 (fun h23 => ?_) eo ep0 FU (0 : Int32) h3
  refine g_aload_n (i := 0) C dX2_find_68 rfl rfl ?_
  refine g_iconst (v := 0) C dX2_find_69 (by decide) ?_
  refine g_iconst (v := 0) C dX2_find_70 (by decide) ?_
  refine g_cVv2 C cf_X2_41 cv_X2_shelveFrom eo (fun r h' e => c_X2_shelveFrom E 8 o (0 : Int32) (0 : Int32) eo h23 e) (by decide) (by decide) (Nat.le_of_ble_eq_true rfl) dX2_find_71 (fun _ h24 _ => ?_)
  exact g_vret C dX2_find_74
set_option maxHeartbeats 4000000 in
set_option maxRecDepth 100000 in
theorem c_X3_add (E : Ev) (o : Nat) (p0 : Int32) (p1 : Int32) (p2 : Int32) (eo : isO shC o 3 = true) (h : Hp) {r : Int32} {h' : Hp} (e : F_X3_add o p0 p1 p2 h = some (r, h')) : Ctr E shC yX3_add cX3_add 4 (some .int) 1 [.ref (E.2.2.2 + o), .int p0, .int p1, .int p2] h (vi r) h' := by
  refine Ctr.ofG (val := vi) e (by decide) (Nat.le_of_ble_eq_true rfl) [some (.ref (E.2.2.2 + o)), some (.int p0), some (.int p1), some (.int p2)] rfl (fun X C => ?_)
  unfold F_X3_add
  refine g_aload_n (i := 0) C dX3_add_0 rfl rfl ?_
  refine g_getI C f_X3_21 eo dX3_add_1 ?_
  refine g_bipush (v := 8) C dX3_add_4 (by decide) ?_
  refine g_icmp_lt C 12 dX3_add_6 (by decide) (fun hc8 => ?_) (fun hc8 => ?_)
  · refine g_aload_n (i := 0) C dX3_add_12 rfl rfl ?_
    refine g_getA C f_X3_9 eo dX3_add_13 (fun q1 _ => ?_)
    refine g_aload_n (i := 0) C dX3_add_16 rfl rfl ?_
    refine g_getI C f_X3_21 eo dX3_add_17 ?_
    refine g_iload_n (i := 1) C dX3_add_20 rfl rfl ?_
    refine g_iast C dX3_add_21 (fun h2 => ?_)
    refine g_aload_n (i := 0) C dX3_add_22 rfl rfl ?_
    refine g_getA C f_X3_15 eo dX3_add_23 (fun q3 _ => ?_)
    refine g_aload_n (i := 0) C dX3_add_26 rfl rfl ?_
    refine g_getI C f_X3_21 eo dX3_add_27 ?_
    refine g_iload_n (i := 2) C dX3_add_30 rfl rfl ?_
    refine g_iast C dX3_add_31 (fun h4 => ?_)
    refine g_aload_n (i := 0) C dX3_add_32 rfl rfl ?_
    refine g_getA C f_X3_18 eo dX3_add_33 (fun q5 _ => ?_)
    refine g_aload_n (i := 0) C dX3_add_36 rfl rfl ?_
    refine g_getI C f_X3_21 eo dX3_add_37 ?_
    refine g_iload_n (i := 3) C dX3_add_40 rfl rfl ?_
    refine g_iast C dX3_add_41 (fun h6 => ?_)
    refine g_aload_n (i := 0) C dX3_add_42 rfl rfl ?_
    refine g_dup C dX3_add_43 rfl ?_
    refine g_getI C f_X3_21 eo dX3_add_44 ?_
    refine g_iconst (v := 1) C dX3_add_47 (by decide) ?_
    refine g_iadd C dX3_add_48 ?_
    refine g_putI C f_X3_21 eo dX3_add_49 (fun h7 => ?_)
    refine g_aload_n (i := 0) C dX3_add_52 rfl rfl ?_
    refine g_getI C f_X3_21 eo dX3_add_53 ?_
    refine g_iconst (v := 1) C dX3_add_56 (by decide) ?_
    refine g_isub C dX3_add_57 ?_
    exact g_ireti C dX3_add_58
  · refine g_bipush (v := -4) C dX3_add_9 (by decide) ?_
    exact g_ireti C dX3_add_11
set_option maxHeartbeats 4000000 in
set_option maxRecDepth 100000 in
theorem c_X3_takeBack (E : Ev) (o : Nat) (p0 : Int32) (eo : isO shC o 3 = true) (h : Hp) {r : Int32} {h' : Hp} (e : F_X3_takeBack o p0 h = some (r, h')) : Ctr E shC yX3_takeBack cX3_takeBack 2 (some .int) 1 [.ref (E.2.2.2 + o), .int p0] h (vi r) h' := by
  refine Ctr.ofG (val := vi) e (by decide) (Nat.le_of_ble_eq_true rfl) [some (.ref (E.2.2.2 + o)), some (.int p0)] rfl (fun X C => ?_)
  unfold F_X3_takeBack
  refine g_iload_n (i := 1) C dX3_takeBack_0 rfl rfl ?_
  refine g_if_lt C 12 dX3_takeBack_1 (by decide) (fun hc3 => ?_) (fun hc3 => ?_)
  · refine g_bipush (v := -2) C dX3_takeBack_12 (by decide) ?_
    exact g_ireti C dX3_takeBack_14
  · refine g_iload_n (i := 1) C dX3_takeBack_4 rfl rfl ?_
    refine g_aload_n (i := 0) C dX3_takeBack_5 rfl rfl ?_
    refine g_getI C f_X3_21 eo dX3_takeBack_6 ?_
    refine g_icmp_le C 15 dX3_takeBack_9 (by decide) (fun hc2 => ?_) (fun hc2 => ?_)
    · refine g_aload_n (i := 0) C dX3_takeBack_15 rfl rfl ?_
      refine g_dup C dX3_takeBack_16 rfl ?_
      refine g_getI C f_X3_21 eo dX3_takeBack_17 ?_
      refine g_iload_n (i := 1) C dX3_takeBack_20 rfl rfl ?_
      refine g_isub C dX3_takeBack_21 ?_
      refine g_putI C f_X3_21 eo dX3_takeBack_22 (fun h1 => ?_)
      refine g_aload_n (i := 0) C dX3_takeBack_25 rfl rfl ?_
      refine g_getI C f_X3_21 eo dX3_takeBack_26 ?_
      exact g_ireti C dX3_takeBack_29
    · refine g_bipush (v := -2) C dX3_takeBack_12 (by decide) ?_
      exact g_ireti C dX3_takeBack_14
set_option maxHeartbeats 4000000 in
set_option maxRecDepth 100000 in
theorem G_F_X4_cutFrom_J118 {E : Ev} {X : Cx} {RN : Nat} (C : Ok E X cX4_cutFrom RX4 6 none (1 + RN + 1)) (rec : Nat → Int32 → Int32 → Int32 → Hp → Option (Unit × Hp)) (hrec : ∀ (o : Nat) (p0 : Int32) (p1 : Int32) (p2 : Int32) (hh : Hp) (r : Unit) (h' : Hp), isO shC o 4 = true → rec o p0 p1 p2 hh = some (r, h') → Ctr E shC yX4_cutFrom cX4_cutFrom 6 none (1 + RN) [.ref (E.2.2.2 + o), .int p0, .int p1, .int p2] hh (vv r) h') (k79 : Int32 → Hp → Option (Unit × Hp)) (q13 : Nat) (x14 : Int32) (x15 : Int32) (x16 : Int32) (x24 : Int32) (hk79 : ∀ (z5 : Int32) (hh : Hp), G E shC X vv 79 [some (.ref (E.2.2.2 + q13)), some (.int x14), some (.int x15), some (.int x16), none, some (.int z5)] [] hh (k79 z5 hh)) (eq13 : isO shC q13 4 = true) (h25 : Hp) : G E shC X vv 118 [some (.ref (E.2.2.2 + q13)), some (.int x14), some (.int x15), some (.int x16), none, some (.int x24)] [] h25 (F_X4_cutFrom_J118 rec k79 q13 x14 x15 x16 x24 h25) := by
  unfold F_X4_cutFrom_J118
  refine g_aload_n (i := 0) C dX4_cutFrom_118 rfl rfl ?_
  refine g_getA C f_X4_30 eq13 dX4_cutFrom_119 (fun q26 _ => ?_)
  refine g_iload_n (i := 1) C dX4_cutFrom_122 rfl rfl ?_
  refine g_iload (i := 5) C dX4_cutFrom_123 rfl ?_
  refine g_iast C dX4_cutFrom_125 (fun h27 => ?_)
  refine g_aload_n (i := 0) C dX4_cutFrom_126 rfl rfl ?_
  refine g_iload_n (i := 1) C dX4_cutFrom_127 rfl rfl ?_
  refine g_iconst (v := 1) C dX4_cutFrom_128 (by decide) ?_
  refine g_iadd C dX4_cutFrom_129 ?_
  refine g_iload_n (i := 2) C dX4_cutFrom_130 rfl rfl ?_
  refine g_aload_n (i := 0) C dX4_cutFrom_131 rfl rfl ?_
  refine g_getA C f_X4_21 eq13 dX4_cutFrom_132 (fun q28 _ => ?_)
  refine g_iload_n (i := 1) C dX4_cutFrom_135 rfl rfl ?_
  refine g_aald C 3 (Or.inr rfl) dX4_cutFrom_136 (fun q29 _ => ?_)
  refine g_iload (i := 5) C dX4_cutFrom_137 rfl ?_
  refine g_iald C dX4_cutFrom_139 ?_
  refine g_ior C dX4_cutFrom_140 ?_
  refine g_iload_n (i := 3) C dX4_cutFrom_141 rfl rfl ?_
  refine g_iload (i := 5) C dX4_cutFrom_142 rfl ?_
  refine g_iadd C dX4_cutFrom_144 ?_
  refine g_cVv3 C cf_X4_46 cv_X4_cutFrom eq13 (fun r h' e => hrec q13 (x14 + (1 : Int32)) (x15 ||| (h27.1 q29 (x24).toNatClampNeg)) (x16 + x24) h27 r h' eq13 e) (by omega) (by decide) (Nat.le_of_ble_eq_true rfl) dX4_cutFrom_145 (fun _ h30 _ => ?_)
  refine g_iinc (i := 5) (w := 1) C (fun yy => [some (.ref (E.2.2.2 + q13)), some (.int x14), some (.int x15), some (.int x16), none, some (.int yy)]) dX4_cutFrom_148 rfl (by decide) rfl (by decide) rfl (fun _ => rfl) (fun x31 => ?_)
  refine g_goto C 79 dX4_cutFrom_151 (by decide) ?_
  exact hk79 x31 h30
set_option maxHeartbeats 4000000 in
set_option maxRecDepth 100000 in
theorem G_F_X4_cutFrom_L79 {E : Ev} {X : Cx} {RN : Nat} (C : Ok E X cX4_cutFrom RX4 6 none (1 + RN + 1)) (rec : Nat → Int32 → Int32 → Int32 → Hp → Option (Unit × Hp)) (hrec : ∀ (o : Nat) (p0 : Int32) (p1 : Int32) (p2 : Int32) (hh : Hp) (r : Unit) (h' : Hp), isO shC o 4 = true → rec o p0 p1 p2 hh = some (r, h') → Ctr E shC yX4_cutFrom cX4_cutFrom 6 none (1 + RN) [.ref (E.2.2.2 + o), .int p0, .int p1, .int p2] hh (vv r) h') (q13 : Nat) (x14 : Int32) (x15 : Int32) (x16 : Int32) (eq13 : isO shC q13 4 = true) : ∀ (N : Nat) (x17 : Int32) (h18 : Hp), G E shC X vv 79 [some (.ref (E.2.2.2 + q13)), some (.int x14), some (.int x15), some (.int x16), none, some (.int x17)] [] h18 (F_X4_cutFrom_L79 rec q13 x14 x15 x16 N x17 h18) := by
  intro N
  induction N with
  | zero =>
    intro _ _
    exact g_none
  | succ N ih =>
    intro x17 h18
    rw [F_X4_cutFrom_L79]
    refine g_iload (i := 5) C dX4_cutFrom_79 rfl ?_
    refine g_aload_n (i := 0) C dX4_cutFrom_81 rfl rfl ?_
    refine g_getA C f_X4_24 eq13 dX4_cutFrom_82 (fun q19 _ => ?_)
    refine g_iload_n (i := 1) C dX4_cutFrom_85 rfl rfl ?_
    refine g_iald C dX4_cutFrom_86 ?_
    refine g_icmp_gt C 154 dX4_cutFrom_87 (by decide) (fun hc39 => ?_) (fun hc39 => ?_)
    · exact g_vret C dX4_cutFrom_154
    · refine g_iload (i := 5) C dX4_cutFrom_90 rfl ?_
      refine g_if_eq C 118 dX4_cutFrom_92 (by decide) (fun hc38 => ?_) (fun hc38 => ?_)
      · exact G_F_X4_cutFrom_J118 C rec hrec (F_X4_cutFrom_L79 rec q13 x14 x15 x16 N) q13 x14 x15 x16 x17 (ih) eq13 h18
      · refine g_aload_n (i := 0) C dX4_cutFrom_95 rfl rfl ?_
        refine g_getA C f_X4_21 eq13 dX4_cutFrom_96 (fun q32 _ => ?_)
        refine g_iload_n (i := 1) C dX4_cutFrom_99 rfl rfl ?_
        refine g_aald C 3 (Or.inr rfl) dX4_cutFrom_100 (fun q33 _ => ?_)
        refine g_iload (i := 5) C dX4_cutFrom_101 rfl ?_
        refine g_iald C dX4_cutFrom_103 ?_
        refine g_aload_n (i := 0) C dX4_cutFrom_104 rfl rfl ?_
        refine g_getA C f_X4_21 eq13 dX4_cutFrom_105 (fun q34 _ => ?_)
        refine g_iload_n (i := 1) C dX4_cutFrom_108 rfl rfl ?_
        refine g_aald C 3 (Or.inr rfl) dX4_cutFrom_109 (fun q35 _ => ?_)
        refine g_iload (i := 5) C dX4_cutFrom_110 rfl ?_
        refine g_iconst (v := 1) C dX4_cutFrom_112 (by decide) ?_
        refine g_isub C dX4_cutFrom_113 ?_
        refine g_iald C dX4_cutFrom_114 ?_
        refine g_icmp_eq C 148 dX4_cutFrom_115 (by decide) (fun hc37 => ?_) (fun hc37 => ?_)
        · refine g_iinc (i := 5) (w := 1) C (fun yy => [some (.ref (E.2.2.2 + q13)), some (.int x14), some (.int x15), some (.int x16), none, some (.int yy)]) dX4_cutFrom_148 rfl (by decide) rfl (by decide) rfl (fun _ => rfl) (fun x36 => ?_)
          refine g_goto C 79 dX4_cutFrom_151 (by decide) ?_
          exact ih x36 h18
        · exact G_F_X4_cutFrom_J118 C rec hrec (F_X4_cutFrom_L79 rec q13 x14 x15 x16 N) q13 x14 x15 x16 x17 (ih) eq13 h18
set_option maxHeartbeats 4000000 in
set_option maxRecDepth 100000 in
theorem G_F_X4_cutFrom_J22 {E : Ev} {X : Cx} {RN : Nat} (C : Ok E X cX4_cutFrom RX4 6 none (1 + RN + 1)) (rec : Nat → Int32 → Int32 → Int32 → Hp → Option (Unit × Hp)) (hrec : ∀ (o : Nat) (p0 : Int32) (p1 : Int32) (p2 : Int32) (hh : Hp) (r : Unit) (h' : Hp), isO shC o 4 = true → rec o p0 p1 p2 hh = some (r, h') → Ctr E shC yX4_cutFrom cX4_cutFrom 6 none (1 + RN) [.ref (E.2.2.2 + o), .int p0, .int p1, .int p2] hh (vv r) h') (q6 : Nat) (x7 : Int32) (x8 : Int32) (x9 : Int32) (y10 : Int32) (eq6 : isO shC q6 4 = true) (h11 : Hp) : G E shC X vv 22 [some (.ref (E.2.2.2 + q6)), some (.int x7), some (.int x8), some (.int x9), none, none] [.int y10] h11 (F_X4_cutFrom_J22 rec q6 x7 x8 x9 y10 h11) := by
  unfold F_X4_cutFrom_J22
  refine g_istore (i := 4) C [some (.ref (E.2.2.2 + q6)), some (.int x7), some (.int x8), some (.int x9), some (.int y10), none] dX4_cutFrom_22 (by decide) rfl rfl ?_
  refine g_iload (i := 4) C dX4_cutFrom_24 rfl ?_
  refine g_if_eq C 47 dX4_cutFrom_26 (by decide) (fun hc46 => ?_) (fun hc46 => ?_)
  · exact g_vret C dX4_cutFrom_47
  · refine g_aload_n (i := 0) C dX4_cutFrom_29 rfl rfl ?_
    refine g_getI C f_X4_36 eq6 dX4_cutFrom_30 ?_
    refine g_iload_n (i := 2) C dX4_cutFrom_33 rfl rfl ?_
    refine g_aload_n (i := 0) C dX4_cutFrom_34 rfl rfl ?_
    refine g_getA C f_X4_27 eq6 dX4_cutFrom_35 (fun q12 _ => ?_)
    refine g_iload_n (i := 1) C dX4_cutFrom_38 rfl rfl ?_
    refine g_iald C dX4_cutFrom_39 ?_
    refine g_ior C dX4_cutFrom_40 ?_
    refine g_iconst (v := -1) C dX4_cutFrom_41 (by decide) ?_
    refine g_ixor C dX4_cutFrom_42 ?_
    refine g_iand C dX4_cutFrom_43 ?_
    refine g_if_eq C 48 dX4_cutFrom_44 (by decide) (fun hc45 => ?_) (fun hc45 => ?_)
    · refine g_iload_n (i := 1) C dX4_cutFrom_48 rfl rfl ?_
      refine g_aload_n (i := 0) C dX4_cutFrom_49 rfl rfl ?_
      refine g_getI C f_X4_33 eq6 dX4_cutFrom_50 ?_
      refine g_icmp_lt C 76 dX4_cutFrom_53 (by decide) (fun hc44 => ?_) (fun hc44 => ?_)
      · refine g_iconst (v := 0) C dX4_cutFrom_76 (by decide) ?_
        refine g_istore (i := 5) C [some (.ref (E.2.2.2 + q6)), some (.int x7), some (.int x8), some (.int x9), some (.int y10), some (.int (0 : Int32))] dX4_cutFrom_77 (by decide) rfl rfl ?_
        refine g_drop (i := 4) [some (.ref (E.2.2.2 + q6)), some (.int x7), some (.int x8), some (.int x9), none, some (.int (0 : Int32))] rfl ?_
        exact G_F_X4_cutFrom_L79 C rec hrec q6 x7 x8 x9 eq6 FU (0 : Int32) h11
      · refine g_aload_n (i := 0) C dX4_cutFrom_56 rfl rfl ?_
        refine g_iload_n (i := 3) C dX4_cutFrom_57 rfl rfl ?_
        refine g_putI C f_X4_15 eq6 dX4_cutFrom_58 (fun h40 => ?_)
        refine g_aload_n (i := 0) C dX4_cutFrom_61 rfl rfl ?_
        refine g_getA C f_X4_30 eq6 dX4_cutFrom_62 (fun q41 _ => ?_)
        refine g_iconst (v := 0) C dX4_cutFrom_65 (by decide) ?_
        refine g_aload_n (i := 0) C dX4_cutFrom_66 rfl rfl ?_
        refine g_getA C f_X4_9 eq6 dX4_cutFrom_67 (fun q42 _ => ?_)
        refine g_iconst (v := 0) C dX4_cutFrom_70 (by decide) ?_
        refine g_iconst (v := 4) C dX4_cutFrom_71 (by decide) ?_
        refine g_copy C ⟨aw_18, aw_14, aw_15, aw_16⟩ (by omega) (Nat.le_of_ble_eq_true rfl) dX4_cutFrom_72 (fun h43 => ?_)
        exact g_vret C dX4_cutFrom_75
    · exact g_vret C dX4_cutFrom_47
set_option maxHeartbeats 4000000 in
set_option maxRecDepth 100000 in
theorem G_F_X4_cutFrom_J17 {E : Ev} {X : Cx} {RN : Nat} (C : Ok E X cX4_cutFrom RX4 6 none (1 + RN + 1)) (rec : Nat → Int32 → Int32 → Int32 → Hp → Option (Unit × Hp)) (hrec : ∀ (o : Nat) (p0 : Int32) (p1 : Int32) (p2 : Int32) (hh : Hp) (r : Unit) (h' : Hp), isO shC o 4 = true → rec o p0 p1 p2 hh = some (r, h') → Ctr E shC yX4_cutFrom cX4_cutFrom 6 none (1 + RN) [.ref (E.2.2.2 + o), .int p0, .int p1, .int p2] hh (vv r) h') (q1 : Nat) (x2 : Int32) (x3 : Int32) (x4 : Int32) (eq1 : isO shC q1 4 = true) (h5 : Hp) : G E shC X vv 17 [some (.ref (E.2.2.2 + q1)), some (.int x2), some (.int x3), some (.int x4), none, none] [] h5 (F_X4_cutFrom_J17 rec q1 x2 x3 x4 h5) := by
  unfold F_X4_cutFrom_J17
  refine g_iconst (v := 1) C dX4_cutFrom_17 (by decide) ?_
  refine g_goto C 22 dX4_cutFrom_18 (by decide) ?_
  exact G_F_X4_cutFrom_J22 C rec hrec q1 x2 x3 x4 (1 : Int32) eq1 h5
set_option maxHeartbeats 4000000 in
set_option maxRecDepth 100000 in
theorem c_X4_cutFrom (E : Ev) : ∀ (N : Nat) (o : Nat) (p0 : Int32) (p1 : Int32) (p2 : Int32) (eo : isO shC o 4 = true) (h : Hp) {r : Unit} {h' : Hp} (e : F_X4_cutFrom N o p0 p1 p2 h = some (r, h')), Ctr E shC yX4_cutFrom cX4_cutFrom 6 none (1 + N) [.ref (E.2.2.2 + o), .int p0, .int p1, .int p2] h (vv r) h' := by
  intro N
  induction N with
  | zero =>
    intro o p0 p1 p2 eo h r h' e
    rw [F_X4_cutFrom] at e
    cases e
  | succ RN ih =>
    intro o p0 p1 p2 eo h r h' e
    rw [F_X4_cutFrom] at e
    have hrec := fun o p0 p1 p2 (hh : Hp) (r : Unit) (h' : Hp) (eo : isO shC o 4 = true) (e : F_X4_cutFrom RN o p0 p1 p2 hh = some (r, h')) => ih o p0 p1 p2 eo hh e
    generalize F_X4_cutFrom RN = rec at e hrec
    refine Ctr.ofG (val := vv) e (by decide) (Nat.le_of_ble_eq_true rfl) [some (.ref (E.2.2.2 + o)), some (.int p0), some (.int p1), some (.int p2), none, none] rfl (fun X C => ?_)
    unfold F_X4_cutFrom_B
    refine g_aload_n (i := 0) C dX4_cutFrom_0 rfl rfl ?_
    refine g_getI C f_X4_15 eo dX4_cutFrom_1 ?_
    refine g_bipush (v := -9) C dX4_cutFrom_4 (by decide) ?_
    refine g_icmp_eq C 17 dX4_cutFrom_6 (by decide) (fun hc48 => ?_) (fun hc48 => ?_)
    · exact G_F_X4_cutFrom_J17 C rec hrec o p0 p1 p2 eo h
    · refine g_iload_n (i := 3) C dX4_cutFrom_9 rfl rfl ?_
      refine g_aload_n (i := 0) C dX4_cutFrom_10 rfl rfl ?_
      refine g_getI C f_X4_15 eo dX4_cutFrom_11 ?_
      refine g_icmp_ge C 21 dX4_cutFrom_14 (by decide) (fun hc47 => ?_) (fun hc47 => ?_)
      · refine g_iconst (v := 0) C dX4_cutFrom_21 (by decide) ?_
        exact G_F_X4_cutFrom_J22 C rec hrec o p0 p1 p2 (0 : Int32) eo h
      · exact G_F_X4_cutFrom_J17 C rec hrec o p0 p1 p2 eo h
set_option maxHeartbeats 4000000 in
set_option maxRecDepth 100000 in
theorem G_F_X4_measure_L19 {E : Ev} {X : Cx} (C : Ok E X cX4_measure RX4 8 none 3) (q5 : Nat) (q6 : Nat) (x7 : Int32) (x8 : Int32) (x9 : Int32) (x10 : Int32) (eq5 : isO shC q5 4 = true) (eq6 : isO shC q6 0 = true) : ∀ (N : Nat) (x11 : Int32) (h12 : Hp), G E shC X vv 19 [some (.ref (E.2.2.2 + q5)), some (.ref (E.2.2.2 + q6)), some (.int x7), some (.int x8), some (.int x9), some (.int x10), some (.int x11), none] [] h12 (F_X4_measure_L19 q5 q6 x7 x8 x9 x10 N x11 h12) := by
  intro N
  induction N with
  | zero =>
    intro _ _
    exact g_none
  | succ N ih =>
    intro x11 h12
    rw [F_X4_measure_L19]
    refine g_iload (i := 6) C dX4_measure_19 rfl ?_
    refine g_iload (i := 5) C dX4_measure_21 rfl ?_
    refine g_icmp_gt C 69 dX4_measure_23 (by decide) (fun hc22 => ?_) (fun hc22 => ?_)
    · exact g_vret C dX4_measure_69
    · refine g_aload_n (i := 1) C dX4_measure_26 rfl rfl ?_
      refine g_iload (i := 4) C dX4_measure_27 rfl ?_
      refine g_iload (i := 6) C dX4_measure_29 rfl ?_
      refine g_cVi2 C cf_X4_60 cv_X0_wordsDown eq6 (fun r h' e => c_X0_wordsDown E q6 x9 x11 eq6 h12 e) (by decide) (by decide) (Nat.le_of_ble_eq_true rfl) dX4_measure_31 (fun r14 h13 _ => ?_)
      refine g_istore (i := 7) C [some (.ref (E.2.2.2 + q5)), some (.ref (E.2.2.2 + q6)), some (.int x7), some (.int x8), some (.int x9), some (.int x10), some (.int x11), some (.int r14)] dX4_measure_34 (by decide) rfl rfl ?_
      refine g_iload (i := 7) C dX4_measure_36 rfl ?_
      refine g_iload_n (i := 3) C dX4_measure_38 rfl rfl ?_
      refine g_iand C dX4_measure_39 ?_
      refine g_if_eq C 44 dX4_measure_40 (by decide) (fun hc21 => ?_) (fun hc21 => ?_)
      · refine g_aload_n (i := 0) C dX4_measure_44 rfl rfl ?_
        refine g_getA C f_X4_21 eq5 dX4_measure_45 (fun q15 _ => ?_)
        refine g_iload_n (i := 2) C dX4_measure_48 rfl rfl ?_
        refine g_aald C 3 (Or.inr rfl) dX4_measure_49 (fun q16 _ => ?_)
        refine g_iload (i := 6) C dX4_measure_50 rfl ?_
        refine g_iload (i := 7) C dX4_measure_52 rfl ?_
        refine g_iast C dX4_measure_54 (fun h17 => ?_)
        refine g_aload_n (i := 0) C dX4_measure_55 rfl rfl ?_
        refine g_getA C f_X4_24 eq5 dX4_measure_56 (fun q18 _ => ?_)
        refine g_iload_n (i := 2) C dX4_measure_59 rfl rfl ?_
        refine g_iload (i := 6) C dX4_measure_60 rfl ?_
        refine g_iast C dX4_measure_62 (fun h19 => ?_)
        refine g_iinc (i := 6) (w := 1) C (fun yy => [some (.ref (E.2.2.2 + q5)), some (.ref (E.2.2.2 + q6)), some (.int x7), some (.int x8), some (.int x9), some (.int x10), some (.int yy), some (.int r14)]) dX4_measure_63 rfl (by decide) rfl (by decide) rfl (fun _ => rfl) (fun x20 => ?_)
        refine g_goto C 19 dX4_measure_66 (by decide) ?_
        refine g_drop (i := 7) [some (.ref (E.2.2.2 + q5)), some (.ref (E.2.2.2 + q6)), some (.int x7), some (.int x8), some (.int x9), some (.int x10), some (.int x20), none] rfl ?_
        exact ih x20 h19
      · exact g_vret C dX4_measure_43
set_option maxHeartbeats 4000000 in
set_option maxRecDepth 100000 in
theorem c_X4_measure (E : Ev) (o : Nat) (p0 : Nat) (p1 : Int32) (p2 : Int32) (eo : isO shC o 4 = true) (ep0 : isO shC p0 0 = true) (h : Hp) {r : Unit} {h' : Hp} (e : F_X4_measure o p0 p1 p2 h = some (r, h')) : Ctr E shC yX4_measure cX4_measure 8 none 3 [.ref (E.2.2.2 + o), .ref (E.2.2.2 + p0), .int p1, .int p2] h (vv r) h' := by
  refine Ctr.ofG (val := vv) e (by decide) (Nat.le_of_ble_eq_true rfl) [some (.ref (E.2.2.2 + o)), some (.ref (E.2.2.2 + p0)), some (.int p1), some (.int p2), none, none, none, none] rfl (fun X C => ?_)
  unfold F_X4_measure
  refine g_aload_n (i := 1) C dX4_measure_0 rfl rfl ?_
  refine g_iload_n (i := 2) C dX4_measure_1 rfl rfl ?_
  refine g_bipush (v := -9) C dX4_measure_2 (by decide) ?_
  refine g_cVi2 C cf_X4_50 cv_X0_talksTo ep0 (fun r h' e => c_X0_talksTo E p0 p1 (-9 : Int32) ep0 h e) (by decide) (by decide) (Nat.le_of_ble_eq_true rfl) dX4_measure_4 (fun r2 h1 _ => ?_)
  refine g_istore (i := 4) C [some (.ref (E.2.2.2 + o)), some (.ref (E.2.2.2 + p0)), some (.int p1), some (.int p2), some (.int r2), none, none, none] dX4_measure_7 (by decide) rfl rfl ?_
  refine g_iload (i := 4) C dX4_measure_9 rfl ?_
  refine g_cSi1 C cf_X4_54 aw_17 (fun r h' e => c_J6_bitCount_0f7a4 E r2 h1 e) (by decide) (by decide) (Nat.le_of_ble_eq_true rfl) dX4_measure_11 (fun r4 h3 _ => ?_)
  refine g_istore (i := 5) C [some (.ref (E.2.2.2 + o)), some (.ref (E.2.2.2 + p0)), some (.int p1), some (.int p2), some (.int r2), some (.int r4), none, none] dX4_measure_14 (by decide) rfl rfl ?_
  refine g_iconst (v := 0) C dX4_measure_16 (by decide) ?_
  refine g_istore (i := 6) C [some (.ref (E.2.2.2 + o)), some (.ref (E.2.2.2 + p0)), some (.int p1), some (.int p2), some (.int r2), some (.int r4), some (.int (0 : Int32)), none] dX4_measure_17 (by decide) rfl rfl ?_
  exact G_F_X4_measure_L19 C o p0 p1 p2 r2 r4 eo ep0 FU (0 : Int32) h3
set_option maxHeartbeats 4000000 in
set_option maxRecDepth 100000 in
theorem G_F_X4_find_L37 {E : Ev} {X : Cx} (C : Ok E X cX4_find RX4 5 none 10) (k88 : Hp → Option (Unit × Hp)) (q7 : Nat) (q8 : Nat) (x9 : Int32) (hk88 : ∀ (hh : Hp), G E shC X vv 88 [some (.ref (E.2.2.2 + q7)), none, none, none, none] [] hh (k88 hh)) (eq7 : isO shC q7 4 = true) (eq8 : isO shC q8 0 = true) : ∀ (N : Nat) (x10 : Int32) (h11 : Hp), G E shC X vv 37 [some (.ref (E.2.2.2 + q7)), some (.ref (E.2.2.2 + q8)), none, some (.int x9), some (.int x10)] [] h11 (F_X4_find_L37 k88 q7 q8 x9 N x10 h11) := by
  intro N
  induction N with
  | zero =>
    intro _ _
    exact g_none
  | succ N ih =>
    intro x10 h11
    rw [F_X4_find_L37]
    refine g_iload (i := 4) C dX4_find_37 rfl ?_
    refine g_if_lt C 88 dX4_find_39 (by decide) (fun hc20 => ?_) (fun hc20 => ?_)
    · refine g_drop (i := 1) [some (.ref (E.2.2.2 + q7)), none, none, some (.int x9), some (.int x10)] rfl ?_
      refine g_drop (i := 3) [some (.ref (E.2.2.2 + q7)), none, none, none, some (.int x10)] rfl ?_
      refine g_drop (i := 4) [some (.ref (E.2.2.2 + q7)), none, none, none, none] rfl ?_
      exact hk88 h11
    · refine g_aload_n (i := 0) C dX4_find_42 rfl rfl ?_
      refine g_aload_n (i := 1) C dX4_find_43 rfl rfl ?_
      refine g_iload (i := 4) C dX4_find_44 rfl ?_
      refine g_iload_n (i := 3) C dX4_find_46 rfl rfl ?_
      refine g_cVv3 C cf_X4_42 cv_X4_measure eq7 (fun r h' e => c_X4_measure E q7 q8 x10 x9 eq7 eq8 h11 e) (by decide) (by decide) (Nat.le_of_ble_eq_true rfl) dX4_find_47 (fun _ h12 _ => ?_)
      refine g_aload_n (i := 0) C dX4_find_50 rfl rfl ?_
      refine g_getA C f_X4_27 eq7 dX4_find_51 (fun q13 _ => ?_)
      refine g_iload (i := 4) C dX4_find_54 rfl ?_
      refine g_aload_n (i := 0) C dX4_find_56 rfl rfl ?_
      refine g_getA C f_X4_27 eq7 dX4_find_57 (fun q14 _ => ?_)
      refine g_iload (i := 4) C dX4_find_60 rfl ?_
      refine g_iconst (v := 1) C dX4_find_62 (by decide) ?_
      refine g_iadd C dX4_find_63 ?_
      refine g_iald C dX4_find_64 ?_
      refine g_aload_n (i := 0) C dX4_find_65 rfl rfl ?_
      refine g_getA C f_X4_21 eq7 dX4_find_66 (fun q15 _ => ?_)
      refine g_iload (i := 4) C dX4_find_69 rfl ?_
      refine g_aald C 3 (Or.inr rfl) dX4_find_71 (fun q16 _ => ?_)
      refine g_aload_n (i := 0) C dX4_find_72 rfl rfl ?_
      refine g_getA C f_X4_24 eq7 dX4_find_73 (fun q17 _ => ?_)
      refine g_iload (i := 4) C dX4_find_76 rfl ?_
      refine g_iald C dX4_find_78 ?_
      refine g_iald C dX4_find_79 ?_
      refine g_ior C dX4_find_80 ?_
      refine g_iast C dX4_find_81 (fun h18 => ?_)
      refine g_iinc (i := 4) (w := -1) C (fun yy => [some (.ref (E.2.2.2 + q7)), some (.ref (E.2.2.2 + q8)), none, some (.int x9), some (.int yy)]) dX4_find_82 rfl (by decide) rfl (by decide) rfl (fun _ => rfl) (fun x19 => ?_)
      refine g_goto C 37 dX4_find_85 (by decide) ?_
      exact ih x19 h18
set_option maxHeartbeats 4000000 in
set_option maxRecDepth 100000 in
theorem c_X4_find (E : Ev) (o : Nat) (p0 : Nat) (p1 : Int32) (p2 : Int32) (eo : isO shC o 4 = true) (ep0 : isO shC p0 0 = true) (h : Hp) {r : Unit} {h' : Hp} (e : F_X4_find o p0 p1 p2 h = some (r, h')) : Ctr E shC yX4_find cX4_find 5 none 10 [.ref (E.2.2.2 + o), .ref (E.2.2.2 + p0), .int p1, .int p2] h (vv r) h' := by
  refine Ctr.ofG (val := vv) e (by decide) (Nat.le_of_ble_eq_true rfl) [some (.ref (E.2.2.2 + o)), some (.ref (E.2.2.2 + p0)), some (.int p1), some (.int p2), none] rfl (fun X C => ?_)
  unfold F_X4_find
  refine g_aload_n (i := 0) C dX4_find_0 rfl rfl ?_
  refine g_aload_n (i := 1) C dX4_find_1 rfl rfl ?_
  refine g_getI C f_X4_39 ep0 dX4_find_2 ?_
  refine g_putI C f_X4_33 eo dX4_find_5 (fun h1 => ?_)
  refine g_aload_n (i := 0) C dX4_find_8 rfl rfl ?_
  refine g_iload_n (i := 2) C dX4_find_9 rfl rfl ?_
  refine g_putI C f_X4_36 eo dX4_find_10 (fun h2 => ?_)
  refine g_aload_n (i := 0) C dX4_find_13 rfl rfl ?_
  refine g_bipush (v := -9) C dX4_find_14 (by decide) ?_
  refine g_putI C f_X4_15 eo dX4_find_16 (fun h3 => ?_)
  refine g_aload_n (i := 0) C dX4_find_19 rfl rfl ?_
  refine g_getA C f_X4_27 eo dX4_find_20 (fun q4 _ => ?_)
  refine g_aload_n (i := 0) C dX4_find_23 rfl rfl ?_
  refine g_getI C f_X4_33 eo dX4_find_24 ?_
  refine g_iconst (v := 0) C dX4_find_27 (by decide) ?_
  refine g_iast C dX4_find_28 (fun h5 => ?_)
  refine g_aload_n (i := 0) C dX4_find_29 rfl rfl ?_
  refine g_getI C f_X4_33 eo dX4_find_30 ?_
  refine g_iconst (v := 1) C dX4_find_33 (by decide) ?_
  refine g_isub C dX4_find_34 ?_
  refine g_topi (fun x6 => ?_)
  refine g_istore (i := 4) C [some (.ref (E.2.2.2 + o)), some (.ref (E.2.2.2 + p0)), some (.int p1), some (.int p2), some (.int x6)] dX4_find_35 (by decide) rfl rfl ?_
  refine g_drop (i := 2) [some (.ref (E.2.2.2 + o)), some (.ref (E.2.2.2 + p0)), none, some (.int p2), some (.int x6)] rfl ?_
  refine G_F_X4_find_L37 C _ o p0 p2 (fun h21 => ?_) eo ep0 FU x6 h5
  refine g_aload_n (i := 0) C dX4_find_88 rfl rfl ?_
  refine g_iconst (v := 0) C dX4_find_89 (by decide) ?_
  refine g_iconst (v := 0) C dX4_find_90 (by decide) ?_
  refine g_iconst (v := 0) C dX4_find_91 (by decide) ?_
  refine g_cVv3 C cf_X4_46 cv_X4_cutFrom eo (fun r h' e => c_X4_cutFrom E 8 o (0 : Int32) (0 : Int32) (0 : Int32) eo h21 e) (by decide) (by decide) (Nat.le_of_ble_eq_true rfl) dX4_find_92 (fun _ h22 _ => ?_)
  exact g_vret C dX4_find_95
set_option maxHeartbeats 4000000 in
set_option maxRecDepth 100000 in
theorem G_F_X5_reduce_L2 {E : Ev} {X : Cx} (C : Ok E X cX5_reduce RX5 2 none 1) (q1 : Nat) (eq1 : isO shC q1 5 = true) : ∀ (N : Nat) (x2 : Int32) (h3 : Hp), G E shC X vv 2 [some (.ref (E.2.2.2 + q1)), some (.int x2)] [] h3 (F_X5_reduce_L2 q1 N x2 h3) := by
  intro N
  induction N with
  | zero =>
    intro _ _
    exact g_none
  | succ N ih =>
    intro x2 h3
    rw [F_X5_reduce_L2]
    refine g_iload_n (i := 1) C dX5_reduce_2 rfl rfl ?_
    refine g_bipush (v := 8) C dX5_reduce_3 (by decide) ?_
    refine g_icmp_ge C 51 dX5_reduce_5 (by decide) (fun hc9 => ?_) (fun hc9 => ?_)
    · exact g_vret C dX5_reduce_51
    · refine g_aload_n (i := 0) C dX5_reduce_8 rfl rfl ?_
      refine g_getI C f_X5_22 eq1 dX5_reduce_9 ?_
      refine g_iconst (v := 1) C dX5_reduce_12 (by decide) ?_
      refine g_icmp_le C 51 dX5_reduce_13 (by decide) (fun hc8 => ?_) (fun hc8 => ?_)
      · exact g_vret C dX5_reduce_51
      · refine g_aload_n (i := 0) C dX5_reduce_16 rfl rfl ?_
        refine g_getI C f_X5_18 eq1 dX5_reduce_17 ?_
        refine g_iconst (v := 2) C dX5_reduce_20 (by decide) ?_
        refine g_irem C dX5_reduce_21 (by decide) ?_
        refine g_if_ne C 51 dX5_reduce_22 (by decide) (fun hc7 => ?_) (fun hc7 => ?_)
        · refine g_aload_n (i := 0) C dX5_reduce_25 rfl rfl ?_
          refine g_dup C dX5_reduce_26 rfl ?_
          refine g_getI C f_X5_18 eq1 dX5_reduce_27 ?_
          refine g_iconst (v := 2) C dX5_reduce_30 (by decide) ?_
          refine g_idiv C dX5_reduce_31 (by decide) ?_
          refine g_putI C f_X5_18 eq1 dX5_reduce_32 (fun h4 => ?_)
          refine g_aload_n (i := 0) C dX5_reduce_35 rfl rfl ?_
          refine g_dup C dX5_reduce_36 rfl ?_
          refine g_getI C f_X5_22 eq1 dX5_reduce_37 ?_
          refine g_iconst (v := 2) C dX5_reduce_40 (by decide) ?_
          refine g_idiv C dX5_reduce_41 (by decide) ?_
          refine g_putI C f_X5_22 eq1 dX5_reduce_42 (fun h5 => ?_)
          refine g_iinc (i := 1) (w := 1) C (fun yy => [some (.ref (E.2.2.2 + q1)), some (.int yy)]) dX5_reduce_45 rfl (by decide) rfl (by decide) rfl (fun _ => rfl) (fun x6 => ?_)
          refine g_goto C 2 dX5_reduce_48 (by decide) ?_
          exact ih x6 h5
        · exact g_vret C dX5_reduce_51
set_option maxHeartbeats 4000000 in
set_option maxRecDepth 100000 in
theorem c_X5_reduce (E : Ev) (o : Nat) (eo : isO shC o 5 = true) (h : Hp) {r : Unit} {h' : Hp} (e : F_X5_reduce o h = some (r, h')) : Ctr E shC yX5_reduce cX5_reduce 2 none 1 [.ref (E.2.2.2 + o)] h (vv r) h' := by
  refine Ctr.ofG (val := vv) e (by decide) (Nat.le_of_ble_eq_true rfl) [some (.ref (E.2.2.2 + o)), none] rfl (fun X C => ?_)
  unfold F_X5_reduce
  refine g_iconst (v := 0) C dX5_reduce_0 (by decide) ?_
  refine g_istore_n (i := 1) C [some (.ref (E.2.2.2 + o)), some (.int (0 : Int32))] dX5_reduce_1 rfl (by decide) rfl rfl ?_
  exact G_F_X5_reduce_L2 C o eo FU (0 : Int32) h
set_option maxHeartbeats 4000000 in
set_option maxRecDepth 100000 in
theorem G_F_X5_spread_J120 {E : Ev} {X : Cx} (C : Ok E X cX5_spread RX5 12 none 2) (k54 : Int32 → Hp → Option (Unit × Hp)) (q19 : Nat) (x20 : Int32) (x21 : Int32) (x22 : Int32) (x29 : Int32) (x30 : Int32) (hk54 : ∀ (z9 : Int32) (hh : Hp), G E shC X vv 54 [some (.ref (E.2.2.2 + q19)), none, none, none, none, none, some (.int x20), some (.int x21), some (.int x22), some (.int z9), none, none] [] hh (k54 z9 hh)) (eq19 : isO shC q19 5 = true) (h31 : Hp) : G E shC X vv 120 [some (.ref (E.2.2.2 + q19)), none, none, none, none, none, some (.int x20), some (.int x21), some (.int x22), some (.int x29), some (.int x30), none] [] h31 (F_X5_spread_J120 k54 q19 x20 x21 x22 x29 x30 h31) := by
  unfold F_X5_spread_J120
  refine g_aload_n (i := 0) C dX5_spread_120 rfl rfl ?_
  refine g_getA C f_X5_15 eq19 dX5_spread_121 (fun q32 _ => ?_)
  refine g_iload (i := 10) C dX5_spread_124 rfl ?_
  refine g_dup2 C dX5_spread_126 rfl rfl ?_
  refine g_iald C dX5_spread_127 ?_
  refine g_aload_n (i := 0) C dX5_spread_128 rfl rfl ?_
  refine g_getA C f_X5_9 eq19 dX5_spread_129 (fun q33 _ => ?_)
  refine g_iload (i := 9) C dX5_spread_132 rfl ?_
  refine g_iald C dX5_spread_134 ?_
  refine g_iadd C dX5_spread_135 ?_
  refine g_iast C dX5_spread_136 (fun h34 => ?_)
  refine g_iinc (i := 9) (w := 1) C (fun yy => [some (.ref (E.2.2.2 + q19)), none, none, none, none, none, some (.int x20), some (.int x21), some (.int x22), some (.int yy), some (.int x30), none]) dX5_spread_137 rfl (by decide) rfl (by decide) rfl (fun _ => rfl) (fun x35 => ?_)
  refine g_goto C 54 dX5_spread_140 (by decide) ?_
  refine g_drop (i := 10) [some (.ref (E.2.2.2 + q19)), none, none, none, none, none, some (.int x20), some (.int x21), some (.int x22), some (.int x35), none, none] rfl ?_
  exact hk54 x35 h34
set_option maxHeartbeats 4000000 in
set_option maxRecDepth 100000 in
theorem G_F_X5_spread_J118 {E : Ev} {X : Cx} (C : Ok E X cX5_spread RX5 12 none 2) (k54 : Int32 → Hp → Option (Unit × Hp)) (q19 : Nat) (x20 : Int32) (x21 : Int32) (x22 : Int32) (x60 : Int32) (y61 : Int32) (hk54 : ∀ (z9 : Int32) (hh : Hp), G E shC X vv 54 [some (.ref (E.2.2.2 + q19)), none, none, none, none, none, some (.int x20), some (.int x21), some (.int x22), some (.int z9), none, none] [] hh (k54 z9 hh)) (eq19 : isO shC q19 5 = true) (h62 : Hp) : G E shC X vv 118 [some (.ref (E.2.2.2 + q19)), none, none, none, none, none, some (.int x20), some (.int x21), some (.int x22), some (.int x60), none, none] [.int y61] h62 (F_X5_spread_J118 k54 q19 x20 x21 x22 x60 y61 h62) := by
  unfold F_X5_spread_J118
  refine g_istore (i := 10) C [some (.ref (E.2.2.2 + q19)), none, none, none, none, none, some (.int x20), some (.int x21), some (.int x22), some (.int x60), some (.int y61), none] dX5_spread_118 (by decide) rfl rfl ?_
  exact G_F_X5_spread_J120 C (k54) q19 x20 x21 x22 x60 y61 (hk54) eq19 h62
set_option maxHeartbeats 4000000 in
set_option maxRecDepth 100000 in
theorem G_F_X5_spread_J102 {E : Ev} {X : Cx} (C : Ok E X cX5_spread RX5 12 none 2) (k54 : Int32 → Hp → Option (Unit × Hp)) (q19 : Nat) (x20 : Int32) (x21 : Int32) (x22 : Int32) (x53 : Int32) (y54 : Int32) (hk54 : ∀ (z9 : Int32) (hh : Hp), G E shC X vv 54 [some (.ref (E.2.2.2 + q19)), none, none, none, none, none, some (.int x20), some (.int x21), some (.int x22), some (.int z9), none, none] [] hh (k54 z9 hh)) (eq19 : isO shC q19 5 = true) (h55 : Hp) : G E shC X vv 102 [some (.ref (E.2.2.2 + q19)), none, none, none, none, none, some (.int x20), some (.int x21), some (.int x22), some (.int x53), none, none] [.int y54] h55 (F_X5_spread_J102 k54 q19 x20 x21 x22 x53 y54 h55) := by
  unfold F_X5_spread_J102
  refine g_istore (i := 10) C [some (.ref (E.2.2.2 + q19)), none, none, none, none, none, some (.int x20), some (.int x21), some (.int x22), some (.int x53), some (.int y54), none] dX5_spread_102 (by decide) rfl rfl ?_
  refine g_iload (i := 7) C dX5_spread_104 rfl ?_
  refine g_if_eq C 116 dX5_spread_106 (by decide) (fun hc63 => ?_) (fun hc63 => ?_)
  · refine g_iload (i := 10) C dX5_spread_116 rfl ?_
    refine g_drop (i := 10) [some (.ref (E.2.2.2 + q19)), none, none, none, none, none, some (.int x20), some (.int x21), some (.int x22), some (.int x53), none, none] rfl ?_
    exact G_F_X5_spread_J118 C (k54) q19 x20 x21 x22 x53 y54 (hk54) eq19 h55
  · refine g_iload (i := 10) C dX5_spread_109 rfl ?_
    refine g_iconst (v := 2) C dX5_spread_111 (by decide) ?_
    refine g_ixor C dX5_spread_112 ?_
    refine g_goto C 118 dX5_spread_113 (by decide) ?_
    refine g_drop (i := 10) [some (.ref (E.2.2.2 + q19)), none, none, none, none, none, some (.int x20), some (.int x21), some (.int x22), some (.int x53), none, none] rfl ?_
    exact G_F_X5_spread_J118 C (k54) q19 x20 x21 x22 x53 (y54 ^^^ (2 : Int32)) (hk54) eq19 h55
set_option maxHeartbeats 4000000 in
set_option maxRecDepth 100000 in
theorem G_F_X5_spread_J100 {E : Ev} {X : Cx} (C : Ok E X cX5_spread RX5 12 none 2) (k54 : Int32 → Hp → Option (Unit × Hp)) (q19 : Nat) (x20 : Int32) (x21 : Int32) (x22 : Int32) (x47 : Int32) (hk54 : ∀ (z9 : Int32) (hh : Hp), G E shC X vv 54 [some (.ref (E.2.2.2 + q19)), none, none, none, none, none, some (.int x20), some (.int x21), some (.int x22), some (.int z9), none, none] [] hh (k54 z9 hh)) (eq19 : isO shC q19 5 = true) (h48 : Hp) : G E shC X vv 100 [some (.ref (E.2.2.2 + q19)), none, none, none, none, none, some (.int x20), some (.int x21), some (.int x22), some (.int x47), none, none] [] h48 (F_X5_spread_J100 k54 q19 x20 x21 x22 x47 h48) := by
  unfold F_X5_spread_J100
  refine g_iload (i := 9) C dX5_spread_100 rfl ?_
  exact G_F_X5_spread_J102 C (k54) q19 x20 x21 x22 x47 x47 (hk54) eq19 h48
set_option maxHeartbeats 4000000 in
set_option maxRecDepth 100000 in
theorem G_F_X5_spread_J81 {E : Ev} {X : Cx} (C : Ok E X cX5_spread RX5 12 none 2) (k54 : Int32 → Hp → Option (Unit × Hp)) (q19 : Nat) (x20 : Int32) (x21 : Int32) (x22 : Int32) (x40 : Int32) (y41 : Int32) (hk54 : ∀ (z9 : Int32) (hh : Hp), G E shC X vv 54 [some (.ref (E.2.2.2 + q19)), none, none, none, none, none, some (.int x20), some (.int x21), some (.int x22), some (.int z9), none, none] [] hh (k54 z9 hh)) (eq19 : isO shC q19 5 = true) (h42 : Hp) : G E shC X vv 81 [some (.ref (E.2.2.2 + q19)), none, none, none, none, none, some (.int x20), some (.int x21), some (.int x22), some (.int x40), none, none] [.int y41] h42 (F_X5_spread_J81 k54 q19 x20 x21 x22 x40 y41 h42) := by
  unfold F_X5_spread_J81
  refine g_istore (i := 11) C [some (.ref (E.2.2.2 + q19)), none, none, none, none, none, some (.int x20), some (.int x21), some (.int x22), some (.int x40), none, some (.int y41)] dX5_spread_81 (by decide) rfl rfl ?_
  refine g_iload (i := 8) C dX5_spread_83 rfl ?_
  refine g_if_eq C 100 dX5_spread_85 (by decide) (fun hc65 => ?_) (fun hc65 => ?_)
  · refine g_drop (i := 11) [some (.ref (E.2.2.2 + q19)), none, none, none, none, none, some (.int x20), some (.int x21), some (.int x22), some (.int x40), none, none] rfl ?_
    exact G_F_X5_spread_J100 C (k54) q19 x20 x21 x22 x40 (hk54) eq19 h42
  · refine g_iload (i := 11) C dX5_spread_88 rfl ?_
    refine g_if_ne C 100 dX5_spread_90 (by decide) (fun hc64 => ?_) (fun hc64 => ?_)
    · refine g_iload (i := 9) C dX5_spread_93 rfl ?_
      refine g_iconst (v := 1) C dX5_spread_95 (by decide) ?_
      refine g_ior C dX5_spread_96 ?_
      refine g_goto C 102 dX5_spread_97 (by decide) ?_
      refine g_drop (i := 11) [some (.ref (E.2.2.2 + q19)), none, none, none, none, none, some (.int x20), some (.int x21), some (.int x22), some (.int x40), none, none] rfl ?_
      exact G_F_X5_spread_J102 C (k54) q19 x20 x21 x22 x40 (x40 ||| (1 : Int32)) (hk54) eq19 h42
    · refine g_drop (i := 11) [some (.ref (E.2.2.2 + q19)), none, none, none, none, none, some (.int x20), some (.int x21), some (.int x22), some (.int x40), none, none] rfl ?_
      exact G_F_X5_spread_J100 C (k54) q19 x20 x21 x22 x40 (hk54) eq19 h42
set_option maxHeartbeats 4000000 in
set_option maxRecDepth 100000 in
theorem G_F_X5_spread_L54 {E : Ev} {X : Cx} (C : Ok E X cX5_spread RX5 12 none 2) (q19 : Nat) (x20 : Int32) (x21 : Int32) (x22 : Int32) (eq19 : isO shC q19 5 = true) : ∀ (N : Nat) (x23 : Int32) (h24 : Hp), G E shC X vv 54 [some (.ref (E.2.2.2 + q19)), none, none, none, none, none, some (.int x20), some (.int x21), some (.int x22), some (.int x23), none, none] [] h24 (F_X5_spread_L54 q19 x20 x21 x22 N x23 h24) := by
  intro N
  induction N with
  | zero =>
    intro _ _
    exact g_none
  | succ N ih =>
    intro x23 h24
    rw [F_X5_spread_L54]
    refine g_iload (i := 9) C dX5_spread_54 rfl ?_
    refine g_iconst (v := 4) C dX5_spread_56 (by decide) ?_
    refine g_icmp_ge C 143 dX5_spread_57 (by decide) (fun hc68 => ?_) (fun hc68 => ?_)
    · exact g_vret C dX5_spread_143
    · refine g_iload (i := 9) C dX5_spread_60 rfl ?_
      refine g_istore (i := 10) C [some (.ref (E.2.2.2 + q19)), none, none, none, none, none, some (.int x20), some (.int x21), some (.int x22), some (.int x23), some (.int x23), none] dX5_spread_62 (by decide) rfl rfl ?_
      refine g_iload (i := 6) C dX5_spread_64 rfl ?_
      refine g_if_eq C 120 dX5_spread_66 (by decide) (fun hc67 => ?_) (fun hc67 => ?_)
      · exact G_F_X5_spread_J120 C (F_X5_spread_L54 q19 x20 x21 x22 N) q19 x20 x21 x22 x23 x23 (ih) eq19 h24
      · refine g_iload (i := 9) C dX5_spread_69 rfl ?_
        refine g_iconst (v := 2) C dX5_spread_71 (by decide) ?_
        refine g_iand C dX5_spread_72 ?_
        refine g_if_eq C 80 dX5_spread_73 (by decide) (fun hc66 => ?_) (fun hc66 => ?_)
        · refine g_iconst (v := 0) C dX5_spread_80 (by decide) ?_
          refine g_drop (i := 10) [some (.ref (E.2.2.2 + q19)), none, none, none, none, none, some (.int x20), some (.int x21), some (.int x22), some (.int x23), none, none] rfl ?_
          exact G_F_X5_spread_J81 C (F_X5_spread_L54 q19 x20 x21 x22 N) q19 x20 x21 x22 x23 (0 : Int32) (ih) eq19 h24
        · refine g_iconst (v := 1) C dX5_spread_76 (by decide) ?_
          refine g_goto C 81 dX5_spread_77 (by decide) ?_
          refine g_drop (i := 10) [some (.ref (E.2.2.2 + q19)), none, none, none, none, none, some (.int x20), some (.int x21), some (.int x22), some (.int x23), none, none] rfl ?_
          exact G_F_X5_spread_J81 C (F_X5_spread_L54 q19 x20 x21 x22 N) q19 x20 x21 x22 x23 (1 : Int32) (ih) eq19 h24
set_option maxHeartbeats 4000000 in
set_option maxRecDepth 100000 in
theorem G_F_X5_spread_J49 {E : Ev} {X : Cx} (C : Ok E X cX5_spread RX5 12 none 2) (q14 : Nat) (x15 : Int32) (x16 : Int32) (y17 : Int32) (eq14 : isO shC q14 5 = true) (h18 : Hp) : G E shC X vv 49 [some (.ref (E.2.2.2 + q14)), none, none, none, none, none, some (.int x15), some (.int x16), none, none, none, none] [.int y17] h18 (F_X5_spread_J49 q14 x15 x16 y17 h18) := by
  unfold F_X5_spread_J49
  refine g_istore (i := 8) C [some (.ref (E.2.2.2 + q14)), none, none, none, none, none, some (.int x15), some (.int x16), some (.int y17), none, none, none] dX5_spread_49 (by decide) rfl rfl ?_
  refine g_iconst (v := 0) C dX5_spread_51 (by decide) ?_
  refine g_istore (i := 9) C [some (.ref (E.2.2.2 + q14)), none, none, none, none, none, some (.int x15), some (.int x16), some (.int y17), some (.int (0 : Int32)), none, none] dX5_spread_52 (by decide) rfl rfl ?_
  exact G_F_X5_spread_L54 C q14 x15 x16 y17 eq14 FU (0 : Int32) h18
set_option maxHeartbeats 4000000 in
set_option maxRecDepth 100000 in
theorem G_F_X5_spread_J31 {E : Ev} {X : Cx} (C : Ok E X cX5_spread RX5 12 none 2) (q6 : Nat) (q7 : Nat) (x8 : Int32) (x9 : Int32) (x10 : Int32) (y11 : Int32) (eq6 : isO shC q6 5 = true) (eq7 : isO shC q7 0 = true) (h12 : Hp) : G E shC X vv 31 [some (.ref (E.2.2.2 + q6)), some (.ref (E.2.2.2 + q7)), none, some (.int x8), none, some (.int x9), some (.int x10), none, none, none, none, none] [.int y11] h12 (F_X5_spread_J31 q6 q7 x8 x9 x10 y11 h12) := by
  unfold F_X5_spread_J31
  refine g_istore (i := 7) C [some (.ref (E.2.2.2 + q6)), some (.ref (E.2.2.2 + q7)), none, some (.int x8), none, some (.int x9), some (.int x10), some (.int y11), none, none, none, none] dX5_spread_31 (by decide) rfl rfl ?_
  refine g_aload_n (i := 1) C dX5_spread_33 rfl rfl ?_
  refine g_getA C f_X5_57 eq7 dX5_spread_34 (fun q13 _ => ?_)
  refine g_iload_n (i := 3) C dX5_spread_37 rfl rfl ?_
  refine g_iald C dX5_spread_38 ?_
  refine g_iload (i := 5) C dX5_spread_39 rfl ?_
  refine g_icmp_ne C 48 dX5_spread_41 (by decide) (fun hc69 => ?_) (fun hc69 => ?_)
  · refine g_iconst (v := 1) C dX5_spread_44 (by decide) ?_
    refine g_goto C 49 dX5_spread_45 (by decide) ?_
    refine g_drop (i := 1) [some (.ref (E.2.2.2 + q6)), none, none, some (.int x8), none, some (.int x9), some (.int x10), some (.int y11), none, none, none, none] rfl ?_
    refine g_drop (i := 3) [some (.ref (E.2.2.2 + q6)), none, none, none, none, some (.int x9), some (.int x10), some (.int y11), none, none, none, none] rfl ?_
    refine g_drop (i := 5) [some (.ref (E.2.2.2 + q6)), none, none, none, none, none, some (.int x10), some (.int y11), none, none, none, none] rfl ?_
    exact G_F_X5_spread_J49 C q6 x10 y11 (1 : Int32) eq6 h12
  · refine g_iconst (v := 0) C dX5_spread_48 (by decide) ?_
    refine g_drop (i := 1) [some (.ref (E.2.2.2 + q6)), none, none, some (.int x8), none, some (.int x9), some (.int x10), some (.int y11), none, none, none, none] rfl ?_
    refine g_drop (i := 3) [some (.ref (E.2.2.2 + q6)), none, none, none, none, some (.int x9), some (.int x10), some (.int y11), none, none, none, none] rfl ?_
    refine g_drop (i := 5) [some (.ref (E.2.2.2 + q6)), none, none, none, none, none, some (.int x10), some (.int y11), none, none, none, none] rfl ?_
    exact G_F_X5_spread_J49 C q6 x10 y11 (0 : Int32) eq6 h12
set_option maxHeartbeats 4000000 in
set_option maxRecDepth 100000 in
theorem c_X5_spread (E : Ev) (o : Nat) (p0 : Nat) (p1 : Int32) (p2 : Int32) (p3 : Int32) (p4 : Int32) (eo : isO shC o 5 = true) (ep0 : isO shC p0 0 = true) (h : Hp) {r : Unit} {h' : Hp} (e : F_X5_spread o p0 p1 p2 p3 p4 h = some (r, h')) : Ctr E shC yX5_spread cX5_spread 12 none 2 [.ref (E.2.2.2 + o), .ref (E.2.2.2 + p0), .int p1, .int p2, .int p3, .int p4] h (vv r) h' := by
  refine Ctr.ofG (val := vv) e (by decide) (Nat.le_of_ble_eq_true rfl) [some (.ref (E.2.2.2 + o)), some (.ref (E.2.2.2 + p0)), some (.int p1), some (.int p2), some (.int p3), some (.int p4), none, none, none, none, none, none] rfl (fun X C => ?_)
  unfold F_X5_spread
  refine g_aload_n (i := 1) C dX5_spread_0 rfl rfl ?_
  refine g_iload_n (i := 2) C dX5_spread_1 rfl rfl ?_
  refine g_aload_n (i := 1) C dX5_spread_2 rfl rfl ?_
  refine g_iload_n (i := 2) C dX5_spread_3 rfl rfl ?_
  refine g_iload_n (i := 3) C dX5_spread_4 rfl rfl ?_
  refine g_cVi2 C cf_X5_46 cv_X0_cellarOn ep0 (fun r h' e => c_X0_cellarOn E p0 p1 p2 ep0 h e) (by decide) (by decide) (Nat.le_of_ble_eq_true rfl) dX5_spread_5 (fun r2 h1 _ => ?_)
  refine g_iload_n (i := 3) C dX5_spread_8 rfl rfl ?_
  refine g_iload (i := 4) C dX5_spread_9 rfl ?_
  refine g_cVi4 C cf_X5_50 cv_X0_catches ep0 (fun r h' e => c_X0_catches E p0 p1 r2 p2 p3 ep0 h1 e) (by decide) (by decide) (Nat.le_of_ble_eq_true rfl) dX5_spread_11 (fun r4 h3 _ => ?_)
  refine g_istore (i := 6) C [some (.ref (E.2.2.2 + o)), some (.ref (E.2.2.2 + p0)), some (.int p1), some (.int p2), some (.int p3), some (.int p4), some (.int r4), none, none, none, none, none] dX5_spread_14 (by decide) rfl rfl ?_
  refine g_aload_n (i := 1) C dX5_spread_16 rfl rfl ?_
  refine g_getA C f_X5_54 ep0 dX5_spread_17 (fun q5 _ => ?_)
  refine g_iload_n (i := 2) C dX5_spread_20 rfl rfl ?_
  refine g_iald C dX5_spread_21 ?_
  refine g_iconst (v := 2) C dX5_spread_22 (by decide) ?_
  refine g_icmp_ne C 30 dX5_spread_23 (by decide) (fun hc70 => ?_) (fun hc70 => ?_)
  · refine g_iconst (v := 1) C dX5_spread_26 (by decide) ?_
    refine g_goto C 31 dX5_spread_27 (by decide) ?_
    refine g_drop (i := 2) [some (.ref (E.2.2.2 + o)), some (.ref (E.2.2.2 + p0)), none, some (.int p2), some (.int p3), some (.int p4), some (.int r4), none, none, none, none, none] rfl ?_
    refine g_drop (i := 4) [some (.ref (E.2.2.2 + o)), some (.ref (E.2.2.2 + p0)), none, some (.int p2), none, some (.int p4), some (.int r4), none, none, none, none, none] rfl ?_
    exact G_F_X5_spread_J31 C o p0 p2 p4 r4 (1 : Int32) eo ep0 h3
  · refine g_iconst (v := 0) C dX5_spread_30 (by decide) ?_
    refine g_drop (i := 2) [some (.ref (E.2.2.2 + o)), some (.ref (E.2.2.2 + p0)), none, some (.int p2), some (.int p3), some (.int p4), some (.int r4), none, none, none, none, none] rfl ?_
    refine g_drop (i := 4) [some (.ref (E.2.2.2 + o)), some (.ref (E.2.2.2 + p0)), none, some (.int p2), none, some (.int p4), some (.int r4), none, none, none, none, none] rfl ?_
    exact G_F_X5_spread_J31 C o p0 p2 p4 r4 (0 : Int32) eo ep0 h3
set_option maxHeartbeats 4000000 in
set_option maxRecDepth 100000 in
theorem G_F_X5_weigh_L18 {E : Ev} {X : Cx} (C : Ok E X cX5_weigh RX5 6 none 3) (k87 : Hp → Option (Unit × Hp)) (q5 : Nat) (q6 : Nat) (x7 : Int32) (x8 : Int32) (hk87 : ∀ (hh : Hp), G E shC X vv 87 [some (.ref (E.2.2.2 + q5)), some (.ref (E.2.2.2 + q6)), none, none, none, none] [] hh (k87 hh)) (eq5 : isO shC q5 5 = true) (eq6 : isO shC q6 0 = true) : ∀ (N : Nat) (x9 : Int32) (h10 : Hp), G E shC X vv 18 [some (.ref (E.2.2.2 + q5)), some (.ref (E.2.2.2 + q6)), some (.int x7), some (.int x8), some (.int x9), none] [] h10 (F_X5_weigh_L18 k87 q5 q6 x7 x8 N x9 h10) := by
  intro N
  induction N with
  | zero =>
    intro _ _
    exact g_none
  | succ N ih =>
    intro x9 h10
    rw [F_X5_weigh_L18]
    refine g_iload (i := 4) C dX5_weigh_18 rfl ?_
    refine g_aload_n (i := 1) C dX5_weigh_20 rfl rfl ?_
    refine g_getI C f_X5_31 eq6 dX5_weigh_21 ?_
    refine g_icmp_ge C 87 dX5_weigh_24 (by decide) (fun hc21 => ?_) (fun hc21 => ?_)
    · refine g_drop (i := 2) [some (.ref (E.2.2.2 + q5)), some (.ref (E.2.2.2 + q6)), none, some (.int x8), some (.int x9), none] rfl ?_
      refine g_drop (i := 3) [some (.ref (E.2.2.2 + q5)), some (.ref (E.2.2.2 + q6)), none, none, some (.int x9), none] rfl ?_
      refine g_drop (i := 4) [some (.ref (E.2.2.2 + q5)), some (.ref (E.2.2.2 + q6)), none, none, none, none] rfl ?_
      exact hk87 h10
    · refine g_aload_n (i := 0) C dX5_weigh_27 rfl rfl ?_
      refine g_getA C f_X5_15 eq5 dX5_weigh_28 (fun q11 _ => ?_)
      refine g_iconst (v := 0) C dX5_weigh_31 (by decide) ?_
      refine g_cSv2 C cf_X5_25 aw_12 (fun r h' e => c_J7_fill_53178 E q11 (0 : Int32) h10 e) (by decide) (by decide) (Nat.le_of_ble_eq_true rfl) dX5_weigh_32 (fun _ h12 _ => ?_)
      refine g_aload_n (i := 0) C dX5_weigh_35 rfl rfl ?_
      refine g_aload_n (i := 1) C dX5_weigh_36 rfl rfl ?_
      refine g_iload_n (i := 2) C dX5_weigh_37 rfl rfl ?_
      refine g_iload (i := 4) C dX5_weigh_38 rfl ?_
      refine g_iconst (v := 1) C dX5_weigh_40 (by decide) ?_
      refine g_iload_n (i := 3) C dX5_weigh_41 rfl rfl ?_
      refine g_cVv5 C cf_X5_36 cv_X5_spread eq5 (fun r h' e => c_X5_spread E q5 q6 x7 x9 (1 : Int32) x8 eq5 eq6 h12 e) (by decide) (by decide) (Nat.le_of_ble_eq_true rfl) dX5_weigh_42 (fun _ h13 _ => ?_)
      refine g_aload_n (i := 0) C dX5_weigh_45 rfl rfl ?_
      refine g_aload_n (i := 1) C dX5_weigh_46 rfl rfl ?_
      refine g_iload_n (i := 2) C dX5_weigh_47 rfl rfl ?_
      refine g_iload (i := 4) C dX5_weigh_48 rfl ?_
      refine g_aload_n (i := 1) C dX5_weigh_50 rfl rfl ?_
      refine g_getA C f_X5_40 eq6 dX5_weigh_51 (fun q14 _ => ?_)
      refine g_iload (i := 4) C dX5_weigh_54 rfl ?_
      refine g_iald C dX5_weigh_56 ?_
      refine g_iload_n (i := 3) C dX5_weigh_57 rfl rfl ?_
      refine g_cVv5 C cf_X5_36 cv_X5_spread eq5 (fun r h' e => c_X5_spread E q5 q6 x7 x9 (h13.1 q14 (x9).toNatClampNeg) x8 eq5 eq6 h13 e) (by decide) (by decide) (Nat.le_of_ble_eq_true rfl) dX5_weigh_58 (fun _ h15 _ => ?_)
      refine g_aload_n (i := 0) C dX5_weigh_61 rfl rfl ?_
      refine g_getA C f_X5_9 eq5 dX5_weigh_62 (fun q16 _ => ?_)
      refine g_astore (i := 5) C [some (.ref (E.2.2.2 + q5)), some (.ref (E.2.2.2 + q6)), some (.int x7), some (.int x8), some (.int x9), some (.ref (E.2.2.2 + q16))] dX5_weigh_65 (by decide) rfl rfl ?_
      refine g_aload_n (i := 0) C dX5_weigh_67 rfl rfl ?_
      refine g_aload_n (i := 0) C dX5_weigh_68 rfl rfl ?_
      refine g_getA C f_X5_15 eq5 dX5_weigh_69 (fun q17 _ => ?_)
      refine g_putR C f_X5_9 eq5 dX5_weigh_72 (fun h18 => ?_)
      refine g_aload_n (i := 0) C dX5_weigh_75 rfl rfl ?_
      refine g_aload (i := 5) C dX5_weigh_76 rfl ?_
      refine g_putR C f_X5_15 eq5 dX5_weigh_78 (fun h19 => ?_)
      refine g_iinc (i := 4) (w := 1) C (fun yy => [some (.ref (E.2.2.2 + q5)), some (.ref (E.2.2.2 + q6)), some (.int x7), some (.int x8), some (.int yy), some (.ref (E.2.2.2 + q16))]) dX5_weigh_81 rfl (by decide) rfl (by decide) rfl (fun _ => rfl) (fun x20 => ?_)
      refine g_goto C 18 dX5_weigh_84 (by decide) ?_
      refine g_drop (i := 5) [some (.ref (E.2.2.2 + q5)), some (.ref (E.2.2.2 + q6)), some (.int x7), some (.int x8), some (.int x20), none] rfl ?_
      exact ih x20 h19
set_option maxHeartbeats 4000000 in
set_option maxRecDepth 100000 in
theorem c_X5_weigh (E : Ev) (o : Nat) (p0 : Nat) (p1 : Int32) (p2 : Int32) (eo : isO shC o 5 = true) (ep0 : isO shC p0 0 = true) (h : Hp) {r : Unit} {h' : Hp} (e : F_X5_weigh o p0 p1 p2 h = some (r, h')) : Ctr E shC yX5_weigh cX5_weigh 6 none 3 [.ref (E.2.2.2 + o), .ref (E.2.2.2 + p0), .int p1, .int p2] h (vv r) h' := by
  refine Ctr.ofG (val := vv) e (by decide) (Nat.le_of_ble_eq_true rfl) [some (.ref (E.2.2.2 + o)), some (.ref (E.2.2.2 + p0)), some (.int p1), some (.int p2), none, none] rfl (fun X C => ?_)
  unfold F_X5_weigh
  refine g_aload_n (i := 0) C dX5_weigh_0 rfl rfl ?_
  refine g_getA C f_X5_9 eo dX5_weigh_1 (fun q1 _ => ?_)
  refine g_iconst (v := 0) C dX5_weigh_4 (by decide) ?_
  refine g_cSv2 C cf_X5_25 aw_12 (fun r h' e => c_J7_fill_53178 E q1 (0 : Int32) h e) (by decide) (by decide) (Nat.le_of_ble_eq_true rfl) dX5_weigh_5 (fun _ h2 _ => ?_)
  refine g_aload_n (i := 0) C dX5_weigh_8 rfl rfl ?_
  refine g_getA C f_X5_9 eo dX5_weigh_9 (fun q3 _ => ?_)
  refine g_iconst (v := 0) C dX5_weigh_12 (by decide) ?_
  refine g_iconst (v := 1) C dX5_weigh_13 (by decide) ?_
  refine g_iast C dX5_weigh_14 (fun h4 => ?_)
  refine g_iconst (v := 0) C dX5_weigh_15 (by decide) ?_
  refine g_istore (i := 4) C [some (.ref (E.2.2.2 + o)), some (.ref (E.2.2.2 + p0)), some (.int p1), some (.int p2), some (.int (0 : Int32)), none] dX5_weigh_16 (by decide) rfl rfl ?_
  refine G_F_X5_weigh_L18 C _ o p0 p1 p2 (fun h22 => ?_) eo ep0 FU (0 : Int32) h4
  refine g_aload_n (i := 0) C dX5_weigh_87 rfl rfl ?_
  refine g_aload_n (i := 0) C dX5_weigh_88 rfl rfl ?_
  refine g_getA C f_X5_9 eo dX5_weigh_89 (fun q23 _ => ?_)
  refine g_iconst (v := 1) C dX5_weigh_92 (by decide) ?_
  refine g_iald C dX5_weigh_93 ?_
  refine g_aload_n (i := 0) C dX5_weigh_94 rfl rfl ?_
  refine g_getA C f_X5_9 eo dX5_weigh_95 (fun q24 _ => ?_)
  refine g_iconst (v := 3) C dX5_weigh_98 (by decide) ?_
  refine g_iald C dX5_weigh_99 ?_
  refine g_iadd C dX5_weigh_100 ?_
  refine g_putI C f_X5_18 eo dX5_weigh_101 (fun h25 => ?_)
  refine g_aload_n (i := 0) C dX5_weigh_104 rfl rfl ?_
  refine g_iconst (v := 1) C dX5_weigh_105 (by decide) ?_
  refine g_aload_n (i := 1) C dX5_weigh_106 rfl rfl ?_
  refine g_getI C f_X5_31 ep0 dX5_weigh_107 ?_
  refine g_ishl C dX5_weigh_110 ?_
  refine g_putI C f_X5_22 eo dX5_weigh_111 (fun h26 => ?_)
  refine g_aload_n (i := 0) C dX5_weigh_114 rfl rfl ?_
  refine g_cVv0 C cf_X5_43 cv_X5_reduce eo (fun r h' e => c_X5_reduce E o eo h26 e) (by decide) (by decide) (Nat.le_of_ble_eq_true rfl) dX5_weigh_115 (fun _ h27 _ => ?_)
  exact g_vret C dX5_weigh_118
set_option maxHeartbeats 4000000 in
set_option maxRecDepth 100000 in
theorem c_X6_isCheese (E : Ev) (o : Nat) (p0 : Int32) (eo : isO shC o 6 = true) (h : Hp) {r : Int32} {h' : Hp} (e : F_X6_isCheese o p0 h = some (r, h')) : Ctr E shC yX6_isCheese cX6_isCheese 2 (some .boolean) 1 [.ref (E.2.2.2 + o), .int p0] h (vi r) h' := by
  refine Ctr.ofG (val := vi) e (by decide) (Nat.le_of_ble_eq_true rfl) [some (.ref (E.2.2.2 + o)), some (.int p0)] rfl (fun X C => ?_)
  unfold F_X6_isCheese
  refine g_iload_n (i := 1) C dX6_isCheese_0 rfl rfl ?_
  refine g_if_lt C 19 dX6_isCheese_1 (by decide) (fun hc3 => ?_) (fun hc3 => ?_)
  · refine g_iconst (v := 0) C dX6_isCheese_19 (by decide) ?_
    exact g_iretz C rfl dX6_isCheese_20
  · refine g_iload_n (i := 1) C dX6_isCheese_4 rfl rfl ?_
    refine g_aload_n (i := 0) C dX6_isCheese_5 rfl rfl ?_
    refine g_getO C f_X6_41 eo dX6_isCheese_6 (fun q1 _ eq1 => ?_)
    refine g_getI C f_X6_181 eq1 dX6_isCheese_9 ?_
    refine g_icmp_ge C 19 dX6_isCheese_12 (by decide) (fun hc2 => ?_) (fun hc2 => ?_)
    · refine g_iconst (v := 0) C dX6_isCheese_19 (by decide) ?_
      exact g_iretz C rfl dX6_isCheese_20
    · refine g_iconst (v := 1) C dX6_isCheese_15 (by decide) ?_
      refine g_goto C 20 dX6_isCheese_16 (by decide) ?_
      exact g_iretz C rfl dX6_isCheese_20
set_option maxHeartbeats 4000000 in
set_option maxRecDepth 100000 in
theorem G_F_X6_alone_L23 {E : Ev} {X : Cx} (C : Ok E X cX6_alone RX6 4 (some .int) 4) (q6 : Nat) (x7 : Int32) (eq6 : isO shC q6 6 = true) : ∀ (N : Nat) (x8 : Int32) (x9 : Int32) (h10 : Hp), G E shC X vi 23 [some (.ref (E.2.2.2 + q6)), some (.int x7), some (.int x8), some (.int x9)] [] h10 (F_X6_alone_L23 q6 x7 N x8 x9 h10) := by
  intro N
  induction N with
  | zero =>
    intro _ _ _
    exact g_none
  | succ N ih =>
    intro x8 x9 h10
    rw [F_X6_alone_L23]
    refine g_iload_n (i := 3) C dX6_alone_23 rfl rfl ?_
    refine g_aload_n (i := 0) C dX6_alone_24 rfl rfl ?_
    refine g_getO C f_X6_41 eq6 dX6_alone_25 (fun q11 _ eq11 => ?_)
    refine g_getI C f_X6_181 eq11 dX6_alone_28 ?_
    refine g_icmp_ge C 60 dX6_alone_31 (by decide) (fun hc19 => ?_) (fun hc19 => ?_)
    · refine g_iload_n (i := 2) C dX6_alone_60 rfl rfl ?_
      exact g_ireti C dX6_alone_61
    · refine g_iload_n (i := 3) C dX6_alone_34 rfl rfl ?_
      refine g_iload_n (i := 1) C dX6_alone_35 rfl rfl ?_
      refine g_icmp_eq C 54 dX6_alone_36 (by decide) (fun hc18 => ?_) (fun hc18 => ?_)
      · refine g_iinc (i := 3) (w := 1) C (fun yy => [some (.ref (E.2.2.2 + q6)), some (.int x7), some (.int x8), some (.int yy)]) dX6_alone_54 rfl (by decide) rfl (by decide) rfl (fun _ => rfl) (fun x12 => ?_)
        refine g_goto C 23 dX6_alone_57 (by decide) ?_
        exact ih x8 x12 h10
      · refine g_iload_n (i := 2) C dX6_alone_39 rfl rfl ?_
        refine g_aload_n (i := 0) C dX6_alone_40 rfl rfl ?_
        refine g_getO C f_X6_41 eq6 dX6_alone_41 (fun q13 _ eq13 => ?_)
        refine g_iload_n (i := 3) C dX6_alone_44 rfl rfl ?_
        refine g_bipush (v := -9) C dX6_alone_45 (by decide) ?_
        refine g_cVi2 C cf_X6_184 cv_X0_wordsTo eq13 (fun r h' e => c_X0_wordsTo E q13 x9 (-9 : Int32) eq13 h10 e) (by decide) (by decide) (Nat.le_of_ble_eq_true rfl) dX6_alone_47 (fun r15 h14 _ => ?_)
        refine g_iconst (v := -1) C dX6_alone_50 (by decide) ?_
        refine g_ixor C dX6_alone_51 ?_
        refine g_iand C dX6_alone_52 ?_
        refine g_topi (fun x16 => ?_)
        refine g_istore_n (i := 2) C [some (.ref (E.2.2.2 + q6)), some (.int x7), some (.int x16), some (.int x9)] dX6_alone_53 rfl (by decide) rfl rfl ?_
        refine g_iinc (i := 3) (w := 1) C (fun yy => [some (.ref (E.2.2.2 + q6)), some (.int x7), some (.int x16), some (.int yy)]) dX6_alone_54 rfl (by decide) rfl (by decide) rfl (fun _ => rfl) (fun x17 => ?_)
        refine g_goto C 23 dX6_alone_57 (by decide) ?_
        exact ih x16 x17 h14
set_option maxHeartbeats 4000000 in
set_option maxRecDepth 100000 in
theorem c_X6_alone (E : Ev) (o : Nat) (p0 : Int32) (eo : isO shC o 6 = true) (h : Hp) {r : Int32} {h' : Hp} (e : F_X6_alone o p0 h = some (r, h')) : Ctr E shC yX6_alone cX6_alone 4 (some .int) 4 [.ref (E.2.2.2 + o), .int p0] h (vi r) h' := by
  refine Ctr.ofG (val := vi) e (by decide) (Nat.le_of_ble_eq_true rfl) [some (.ref (E.2.2.2 + o)), some (.int p0), none, none] rfl (fun X C => ?_)
  unfold F_X6_alone
  refine g_aload_n (i := 0) C dX6_alone_0 rfl rfl ?_
  refine g_iload_n (i := 1) C dX6_alone_1 rfl rfl ?_
  refine g_cVi1 C cf_X6_85 cv_X6_isCheese eo (fun r h' e => c_X6_isCheese E o p0 eo h e) (by decide) (by decide) (Nat.le_of_ble_eq_true rfl) dX6_alone_2 (fun r2 h1 _ => ?_)
  refine g_if_ne C 10 dX6_alone_5 (by decide) (fun hc20 => ?_) (fun hc20 => ?_)
  · refine g_iconst (v := -1) C dX6_alone_8 (by decide) ?_
    exact g_ireti C dX6_alone_9
  · refine g_aload_n (i := 0) C dX6_alone_10 rfl rfl ?_
    refine g_getO C f_X6_41 eo dX6_alone_11 (fun q3 _ eq3 => ?_)
    refine g_iload_n (i := 1) C dX6_alone_14 rfl rfl ?_
    refine g_bipush (v := -9) C dX6_alone_15 (by decide) ?_
    refine g_cVi2 C cf_X6_184 cv_X0_wordsTo eq3 (fun r h' e => c_X0_wordsTo E q3 p0 (-9 : Int32) eq3 h1 e) (by decide) (by decide) (Nat.le_of_ble_eq_true rfl) dX6_alone_17 (fun r5 h4 _ => ?_)
    refine g_istore_n (i := 2) C [some (.ref (E.2.2.2 + o)), some (.int p0), some (.int r5), none] dX6_alone_20 rfl (by decide) rfl rfl ?_
    refine g_iconst (v := 0) C dX6_alone_21 (by decide) ?_
    refine g_istore_n (i := 3) C [some (.ref (E.2.2.2 + o)), some (.int p0), some (.int r5), some (.int (0 : Int32))] dX6_alone_22 rfl (by decide) rfl rfl ?_
    exact G_F_X6_alone_L23 C o p0 eo FU r5 (0 : Int32) h4
set_option maxHeartbeats 4000000 in
set_option maxRecDepth 100000 in
theorem c_X6_faulty (E : Ev) (o : Nat) (p0 : Int32) (eo : isO shC o 6 = true) (h : Hp) {r : Int32} {h' : Hp} (e : F_X6_faulty o p0 h = some (r, h')) : Ctr E shC yX6_faulty cX6_faulty 2 (some .int) 1 [.ref (E.2.2.2 + o), .int p0] h (vi r) h' := by
  refine Ctr.ofG (val := vi) e (by decide) (Nat.le_of_ble_eq_true rfl) [some (.ref (E.2.2.2 + o)), some (.int p0)] rfl (fun X C => ?_)
  unfold F_X6_faulty
  refine g_aload_n (i := 0) C dX6_faulty_0 rfl rfl ?_
  refine g_iload_n (i := 1) C dX6_faulty_1 rfl rfl ?_
  refine g_putI C f_X6_52 eo dX6_faulty_2 (fun h1 => ?_)
  refine g_bipush (v := -10) C dX6_faulty_5 (by decide) ?_
  refine g_iload_n (i := 1) C dX6_faulty_7 rfl rfl ?_
  refine g_isub C dX6_faulty_8 ?_
  exact g_ireti C dX6_faulty_9
set_option maxHeartbeats 4000000 in
set_option maxRecDepth 100000 in
theorem c_X6_as (E : Ev) (o : Nat) (p0 : Int32) (p1 : Int32) (eo : isO shC o 6 = true) (h : Hp) {r : Int32} {h' : Hp} (e : F_X6_as o p0 p1 h = some (r, h')) : Ctr E shC yX6_as cX6_as 3 (some .int) 2 [.ref (E.2.2.2 + o), .int p0, .int p1] h (vi r) h' := by
  refine Ctr.ofG (val := vi) e (by decide) (Nat.le_of_ble_eq_true rfl) [some (.ref (E.2.2.2 + o)), some (.int p0), some (.int p1)] rfl (fun X C => ?_)
  unfold F_X6_as
  refine g_aload_n (i := 0) C dX6_as_0 rfl rfl ?_
  refine g_iconst (v := 0) C dX6_as_1 (by decide) ?_
  refine g_putI C f_X6_52 eo dX6_as_2 (fun h1 => ?_)
  refine g_aload_n (i := 0) C dX6_as_5 rfl rfl ?_
  refine g_iload_n (i := 1) C dX6_as_6 rfl rfl ?_
  refine g_cVi1 C cf_X6_85 cv_X6_isCheese eo (fun r h' e => c_X6_isCheese E o p0 eo h1 e) (by decide) (by decide) (Nat.le_of_ble_eq_true rfl) dX6_as_7 (fun r3 h2 _ => ?_)
  refine g_if_ne C 15 dX6_as_10 (by decide) (fun hc11 => ?_) (fun hc11 => ?_)
  · refine g_iconst (v := -1) C dX6_as_13 (by decide) ?_
    exact g_ireti C dX6_as_14
  · refine g_iload_n (i := 2) C dX6_as_15 rfl rfl ?_
    refine g_if_lt C 24 dX6_as_16 (by decide) (fun hc10 => ?_) (fun hc10 => ?_)
    · refine g_bipush (v := -2) C dX6_as_24 (by decide) ?_
      exact g_ireti C dX6_as_26
    · refine g_iload_n (i := 2) C dX6_as_19 rfl rfl ?_
      refine g_iconst (v := 2) C dX6_as_20 (by decide) ?_
      refine g_icmp_le C 27 dX6_as_21 (by decide) (fun hc9 => ?_) (fun hc9 => ?_)
      · refine g_aload_n (i := 0) C dX6_as_27 rfl rfl ?_
        refine g_getO C f_X6_41 eo dX6_as_28 (fun q4 _ eq4 => ?_)
        refine g_getA C f_X6_88 eq4 dX6_as_31 (fun q5 _ => ?_)
        refine g_iload_n (i := 1) C dX6_as_34 rfl rfl ?_
        refine g_iald C dX6_as_35 ?_
        refine g_iload_n (i := 2) C dX6_as_36 rfl rfl ?_
        refine g_icmp_ge C 48 dX6_as_37 (by decide) (fun hc8 => ?_) (fun hc8 => ?_)
        · refine g_iconst (v := 1) C dX6_as_48 (by decide) ?_
          exact g_ireti C dX6_as_49
        · refine g_aload_n (i := 0) C dX6_as_40 rfl rfl ?_
          refine g_iconst (v := 2) C dX6_as_41 (by decide) ?_
          refine g_cVi1 C cf_X6_71 cv_X6_faulty eo (fun r h' e => c_X6_faulty E o (2 : Int32) eo h2 e) (by decide) (by decide) (Nat.le_of_ble_eq_true rfl) dX6_as_42 (fun r7 h6 _ => ?_)
          refine g_goto C 49 dX6_as_45 (by decide) ?_
          exact g_ireti C dX6_as_49
      · refine g_bipush (v := -2) C dX6_as_24 (by decide) ?_
        exact g_ireti C dX6_as_26
set_option maxHeartbeats 4000000 in
set_option maxRecDepth 100000 in
theorem c_X6_back (E : Ev) (o : Nat) (p0 : Int32) (eo : isO shC o 6 = true) (h : Hp) {r : Int32} {h' : Hp} (e : F_X6_back o p0 h = some (r, h')) : Ctr E shC yX6_back cX6_back 2 (some .int) 2 [.ref (E.2.2.2 + o), .int p0] h (vi r) h' := by
  refine Ctr.ofG (val := vi) e (by decide) (Nat.le_of_ble_eq_true rfl) [some (.ref (E.2.2.2 + o)), some (.int p0)] rfl (fun X C => ?_)
  unfold F_X6_back
  refine g_aload_n (i := 0) C dX6_back_0 rfl rfl ?_
  refine g_getO C f_X6_41 eo dX6_back_1 (fun q1 _ eq1 => ?_)
  refine g_getO C f_X6_187 eq1 dX6_back_4 (fun q2 _ eq2 => ?_)
  refine g_iload_n (i := 1) C dX6_back_7 rfl rfl ?_
  refine g_cVi1 C cf_X6_131 cv_X3_takeBack eq2 (fun r h' e => c_X3_takeBack E q2 p0 eq2 h e) (by decide) (by decide) (Nat.le_of_ble_eq_true rfl) dX6_back_8 (fun r4 h3 _ => ?_)
  exact g_ireti C dX6_back_11
set_option maxHeartbeats 4000000 in
set_option maxRecDepth 100000 in
theorem c_X6_isSheet (E : Ev) (p0 : Int32) (h : Hp) {r : Int32} {h' : Hp} (e : F_X6_isSheet p0 h = some (r, h')) : Ctr E shC yX6_isSheet cX6_isSheet 1 (some .boolean) 1 [.int p0] h (vi r) h' := by
  refine Ctr.ofG (val := vi) e (by decide) (Nat.le_of_ble_eq_true rfl) [some (.int p0)] rfl (fun X C => ?_)
  unfold F_X6_isSheet
  refine g_iload_n (i := 0) C dX6_isSheet_0 rfl rfl ?_
  refine g_if_lt C 13 dX6_isSheet_1 (by decide) (fun hc2 => ?_) (fun hc2 => ?_)
  · refine g_iconst (v := 0) C dX6_isSheet_13 (by decide) ?_
    exact g_iretz C rfl dX6_isSheet_14
  · refine g_iload_n (i := 0) C dX6_isSheet_4 rfl rfl ?_
    refine g_iconst (v := 4) C dX6_isSheet_5 (by decide) ?_
    refine g_icmp_ge C 13 dX6_isSheet_6 (by decide) (fun hc1 => ?_) (fun hc1 => ?_)
    · refine g_iconst (v := 0) C dX6_isSheet_13 (by decide) ?_
      exact g_iretz C rfl dX6_isSheet_14
    · refine g_iconst (v := 1) C dX6_isSheet_9 (by decide) ?_
      refine g_goto C 14 dX6_isSheet_10 (by decide) ?_
      exact g_iretz C rfl dX6_isSheet_14
set_option maxHeartbeats 4000000 in
set_option maxRecDepth 100000 in
theorem c_X6_isLane (E : Ev) (p0 : Int32) (h : Hp) {r : Int32} {h' : Hp} (e : F_X6_isLane p0 h = some (r, h')) : Ctr E shC yX6_isLane cX6_isLane 1 (some .boolean) 1 [.int p0] h (vi r) h' := by
  refine Ctr.ofG (val := vi) e (by decide) (Nat.le_of_ble_eq_true rfl) [some (.int p0)] rfl (fun X C => ?_)
  unfold F_X6_isLane
  refine g_iload_n (i := 0) C dX6_isLane_0 rfl rfl ?_
  refine g_if_lt C 13 dX6_isLane_1 (by decide) (fun hc2 => ?_) (fun hc2 => ?_)
  · refine g_iconst (v := 0) C dX6_isLane_13 (by decide) ?_
    exact g_iretz C rfl dX6_isLane_14
  · refine g_iload_n (i := 0) C dX6_isLane_4 rfl rfl ?_
    refine g_iconst (v := 2) C dX6_isLane_5 (by decide) ?_
    refine g_icmp_gt C 13 dX6_isLane_6 (by decide) (fun hc1 => ?_) (fun hc1 => ?_)
    · refine g_iconst (v := 0) C dX6_isLane_13 (by decide) ?_
      exact g_iretz C rfl dX6_isLane_14
    · refine g_iconst (v := 1) C dX6_isLane_9 (by decide) ?_
      refine g_goto C 14 dX6_isLane_10 (by decide) ?_
      exact g_iretz C rfl dX6_isLane_14
set_option maxHeartbeats 4000000 in
set_option maxRecDepth 100000 in
theorem G_F_X6_cell_J63 {E : Ev} {X : Cx} (C : Ok E X cX6_cell RX6 5 (some .long) 3) (q11 : Nat) (x12 : Int32) (q13 : Nat) (eq11 : isO shC q11 6 = true) (eq13 : isO shC q13 1 = true) (h14 : Hp) : G E shC X vl 63 [some (.ref (E.2.2.2 + q11)), none, some (.int x12), none, some (.ref (E.2.2.2 + q13))] [] h14 (F_X6_cell_J63 q11 x12 q13 h14) := by
  unfold F_X6_cell_J63
  refine g_aload_n (i := 0) C dX6_cell_63 rfl rfl ?_
  refine g_getI C f_X6_52 eq11 dX6_cell_64 ?_
  refine g_if_ne C 81 dX6_cell_67 (by decide) (fun hc16 => ?_) (fun hc16 => ?_)
  · refine g_aload (i := 4) C dX6_cell_70 rfl ?_
    refine g_getA C f_X6_74 eq13 dX6_cell_72 (fun q15 _ => ?_)
    refine g_iload_n (i := 2) C dX6_cell_75 rfl rfl ?_
    refine g_iald C dX6_cell_76 ?_
    refine g_i2l C dX6_cell_77 ?_
    refine g_goto C 84 dX6_cell_78 (by decide) ?_
    exact g_lret C dX6_cell_84
  · refine g_ldc2 (v := -9223372036854775808) C dX6_cell_81 aw_19 ?_
    exact g_lret C dX6_cell_84
set_option maxHeartbeats 4000000 in
set_option maxRecDepth 100000 in
theorem c_X6_cell (E : Ev) (o : Nat) (p0 : Int32) (p1 : Int32) (p2 : Int32) (eo : isO shC o 6 = true) (h : Hp) {r : Int64} {h' : Hp} (e : F_X6_cell o p0 p1 p2 h = some (r, h')) : Ctr E shC yX6_cell cX6_cell 5 (some .long) 3 [.ref (E.2.2.2 + o), .int p0, .int p1, .int p2] h (vl r) h' := by
  refine Ctr.ofG (val := vl) e (by decide) (Nat.le_of_ble_eq_true rfl) [some (.ref (E.2.2.2 + o)), some (.int p0), some (.int p1), some (.int p2), none] rfl (fun X C => ?_)
  unfold F_X6_cell
  refine g_aload_n (i := 0) C dX6_cell_0 rfl rfl ?_
  refine g_iconst (v := 0) C dX6_cell_1 (by decide) ?_
  refine g_putI C f_X6_52 eo dX6_cell_2 (fun h1 => ?_)
  refine g_iload_n (i := 1) C dX6_cell_5 rfl rfl ?_
  refine g_cSi1 C cf_X6_56 aw_21 (fun r h' e => c_X6_isSheet E p0 h1 e) (by decide) (by decide) (Nat.le_of_ble_eq_true rfl) dX6_cell_6 (fun r3 h2 _ => ?_)
  refine g_if_eq C 19 dX6_cell_9 (by decide) (fun hc23 => ?_) (fun hc23 => ?_)
  · refine g_ldc2 (v := -9223372036854775808) C dX6_cell_19 aw_19 ?_
    exact g_lret C dX6_cell_22
  · refine g_iload_n (i := 3) C dX6_cell_12 rfl rfl ?_
    refine g_cSi1 C cf_X6_60 aw_20 (fun r h' e => c_X6_isLane E p2 h2 e) (by decide) (by decide) (Nat.le_of_ble_eq_true rfl) dX6_cell_13 (fun r5 h4 _ => ?_)
    refine g_if_ne C 23 dX6_cell_16 (by decide) (fun hc22 => ?_) (fun hc22 => ?_)
    · refine g_ldc2 (v := -9223372036854775808) C dX6_cell_19 aw_19 ?_
      exact g_lret C dX6_cell_22
    · refine g_aload_n (i := 0) C dX6_cell_23 rfl rfl ?_
      refine g_getA C f_X6_13 eo dX6_cell_24 (fun q6 _ => ?_)
      refine g_iload_n (i := 1) C dX6_cell_27 rfl rfl ?_
      refine g_aaldO C dX6_cell_28 (fun q7 _ eq7 => ?_)
      refine g_astore (i := 4) C [some (.ref (E.2.2.2 + o)), some (.int p0), some (.int p1), some (.int p2), some (.ref (E.2.2.2 + q7))] dX6_cell_29 (by decide) rfl rfl ?_
      refine g_aload_n (i := 0) C dX6_cell_31 rfl rfl ?_
      refine g_aload (i := 4) C dX6_cell_32 rfl ?_
      refine g_iload_n (i := 3) C dX6_cell_34 rfl rfl ?_
      refine g_cVi1 C cf_X6_63 cv_X1_faultAs eq7 (fun r h' e => c_X1_faultAs E q7 p2 eq7 h4 e) (by decide) (by decide) (Nat.le_of_ble_eq_true rfl) dX6_cell_35 (fun r9 h8 _ => ?_)
      refine g_putI C f_X6_52 eo dX6_cell_38 (fun h10 => ?_)
      refine g_aload_n (i := 0) C dX6_cell_41 rfl rfl ?_
      refine g_getI C f_X6_52 eo dX6_cell_42 ?_
      refine g_if_ne C 63 dX6_cell_45 (by decide) (fun hc21 => ?_) (fun hc21 => ?_)
      · refine g_aload (i := 4) C dX6_cell_48 rfl ?_
        refine g_iload_n (i := 2) C dX6_cell_50 rfl rfl ?_
        refine g_iconst (v := 1) C dX6_cell_51 (by decide) ?_
        refine g_cVi2 C cf_X6_67 cv_X1_hasCells eq7 (fun r h' e => c_X1_hasCells E q7 p1 (1 : Int32) eq7 h10 e) (by decide) (by decide) (Nat.le_of_ble_eq_true rfl) dX6_cell_52 (fun r18 h17 _ => ?_)
        refine g_if_ne C 63 dX6_cell_55 (by decide) (fun hc20 => ?_) (fun hc20 => ?_)
        · refine g_aload_n (i := 0) C dX6_cell_58 rfl rfl ?_
          refine g_iconst (v := 3) C dX6_cell_59 (by decide) ?_
          refine g_putI C f_X6_52 eo dX6_cell_60 (fun h19 => ?_)
          refine g_drop (i := 1) [some (.ref (E.2.2.2 + o)), none, some (.int p1), some (.int p2), some (.ref (E.2.2.2 + q7))] rfl ?_
          refine g_drop (i := 3) [some (.ref (E.2.2.2 + o)), none, some (.int p1), none, some (.ref (E.2.2.2 + q7))] rfl ?_
          exact G_F_X6_cell_J63 C o p1 q7 eo eq7 h19
        · refine g_drop (i := 1) [some (.ref (E.2.2.2 + o)), none, some (.int p1), some (.int p2), some (.ref (E.2.2.2 + q7))] rfl ?_
          refine g_drop (i := 3) [some (.ref (E.2.2.2 + o)), none, some (.int p1), none, some (.ref (E.2.2.2 + q7))] rfl ?_
          exact G_F_X6_cell_J63 C o p1 q7 eo eq7 h17
      · refine g_drop (i := 1) [some (.ref (E.2.2.2 + o)), none, some (.int p1), some (.int p2), some (.ref (E.2.2.2 + q7))] rfl ?_
        refine g_drop (i := 3) [some (.ref (E.2.2.2 + o)), none, some (.int p1), none, some (.ref (E.2.2.2 + q7))] rfl ?_
        exact G_F_X6_cell_J63 C o p1 q7 eo eq7 h10
set_option maxHeartbeats 4000000 in
set_option maxRecDepth 100000 in
theorem c_X6_hasNoDairy (E : Ev) (o : Nat) (eo : isO shC o 6 = true) (h : Hp) {r : Int32} {h' : Hp} (e : F_X6_hasNoDairy o h = some (r, h')) : Ctr E shC yX6_hasNoDairy cX6_hasNoDairy 1 (some .boolean) 1 [.ref (E.2.2.2 + o)] h (vi r) h' := by
  refine Ctr.ofG (val := vi) e (by decide) (Nat.le_of_ble_eq_true rfl) [some (.ref (E.2.2.2 + o))] rfl (fun X C => ?_)
  unfold F_X6_hasNoDairy
  refine g_aload_n (i := 0) C dX6_hasNoDairy_0 rfl rfl ?_
  refine g_getO C f_X6_41 eo dX6_hasNoDairy_1 (fun q1 _ eq1 => ?_)
  refine g_getI C f_X6_82 eq1 dX6_hasNoDairy_4 ?_
  refine g_if_ne C 14 dX6_hasNoDairy_7 (by decide) (fun hc2 => ?_) (fun hc2 => ?_)
  · refine g_iconst (v := 1) C dX6_hasNoDairy_10 (by decide) ?_
    refine g_goto C 15 dX6_hasNoDairy_11 (by decide) ?_
    exact g_iretz C rfl dX6_hasNoDairy_15
  · refine g_iconst (v := 0) C dX6_hasNoDairy_14 (by decide) ?_
    exact g_iretz C rfl dX6_hasNoDairy_15
set_option maxHeartbeats 4000000 in
set_option maxRecDepth 100000 in
theorem G_F_X6_common_L16 {E : Ev} {X : Cx} (C : Ok E X cX6_common RX6 3 (some .int) 4) (q3 : Nat) (eq3 : isO shC q3 6 = true) : ∀ (N : Nat) (x4 : Int32) (x5 : Int32) (h6 : Hp), G E shC X vi 16 [some (.ref (E.2.2.2 + q3)), some (.int x4), some (.int x5)] [] h6 (F_X6_common_L16 q3 N x4 x5 h6) := by
  intro N
  induction N with
  | zero =>
    intro _ _ _
    exact g_none
  | succ N ih =>
    intro x4 x5 h6
    rw [F_X6_common_L16]
    refine g_iload_n (i := 2) C dX6_common_16 rfl rfl ?_
    refine g_aload_n (i := 0) C dX6_common_17 rfl rfl ?_
    refine g_getO C f_X6_41 eq3 dX6_common_18 (fun q7 _ eq7 => ?_)
    refine g_getI C f_X6_181 eq7 dX6_common_21 ?_
    refine g_icmp_ge C 46 dX6_common_24 (by decide) (fun hc13 => ?_) (fun hc13 => ?_)
    · refine g_iload_n (i := 1) C dX6_common_46 rfl rfl ?_
      exact g_ireti C dX6_common_47
    · refine g_iload_n (i := 1) C dX6_common_27 rfl rfl ?_
      refine g_aload_n (i := 0) C dX6_common_28 rfl rfl ?_
      refine g_getO C f_X6_41 eq3 dX6_common_29 (fun q8 _ eq8 => ?_)
      refine g_iload_n (i := 2) C dX6_common_32 rfl rfl ?_
      refine g_bipush (v := -9) C dX6_common_33 (by decide) ?_
      refine g_cVi2 C cf_X6_184 cv_X0_wordsTo eq8 (fun r h' e => c_X0_wordsTo E q8 x5 (-9 : Int32) eq8 h6 e) (by decide) (by decide) (Nat.le_of_ble_eq_true rfl) dX6_common_35 (fun r10 h9 _ => ?_)
      refine g_iand C dX6_common_38 ?_
      refine g_topi (fun x11 => ?_)
      refine g_istore_n (i := 1) C [some (.ref (E.2.2.2 + q3)), some (.int x11), some (.int x5)] dX6_common_39 rfl (by decide) rfl rfl ?_
      refine g_iinc (i := 2) (w := 1) C (fun yy => [some (.ref (E.2.2.2 + q3)), some (.int x11), some (.int yy)]) dX6_common_40 rfl (by decide) rfl (by decide) rfl (fun _ => rfl) (fun x12 => ?_)
      refine g_goto C 16 dX6_common_43 (by decide) ?_
      exact ih x11 x12 h9
set_option maxHeartbeats 4000000 in
set_option maxRecDepth 100000 in
theorem c_X6_common (E : Ev) (o : Nat) (eo : isO shC o 6 = true) (h : Hp) {r : Int32} {h' : Hp} (e : F_X6_common o h = some (r, h')) : Ctr E shC yX6_common cX6_common 3 (some .int) 4 [.ref (E.2.2.2 + o)] h (vi r) h' := by
  refine Ctr.ofG (val := vi) e (by decide) (Nat.le_of_ble_eq_true rfl) [some (.ref (E.2.2.2 + o)), none, none] rfl (fun X C => ?_)
  unfold F_X6_common
  refine g_aload_n (i := 0) C dX6_common_0 rfl rfl ?_
  refine g_cVi0 C cf_X6_150 cv_X6_hasNoDairy eo (fun r h' e => c_X6_hasNoDairy E o eo h e) (by decide) (by decide) (Nat.le_of_ble_eq_true rfl) dX6_common_1 (fun r2 h1 _ => ?_)
  refine g_if_eq C 10 dX6_common_4 (by decide) (fun hc14 => ?_) (fun hc14 => ?_)
  · refine g_sipush (v := 255) C dX6_common_10 (by decide) ?_
    refine g_istore_n (i := 1) C [some (.ref (E.2.2.2 + o)), some (.int (255 : Int32)), none] dX6_common_13 rfl (by decide) rfl rfl ?_
    refine g_iconst (v := 0) C dX6_common_14 (by decide) ?_
    refine g_istore_n (i := 2) C [some (.ref (E.2.2.2 + o)), some (.int (255 : Int32)), some (.int (0 : Int32))] dX6_common_15 rfl (by decide) rfl rfl ?_
    exact G_F_X6_common_L16 C o eo FU (255 : Int32) (0 : Int32) h1
  · refine g_bipush (v := -3) C dX6_common_7 (by decide) ?_
    exact g_ireti C dX6_common_9
set_option maxHeartbeats 4000000 in
set_option maxRecDepth 100000 in
theorem G_F_X6_copy_J53 {E : Ev} {X : Cx} (C : Ok E X cX6_copy RX6 8 (some .int) 2) (q12 : Nat) (eq12 : isO shC q12 6 = true) (h13 : Hp) : G E shC X vi 53 [some (.ref (E.2.2.2 + q12)), none, none, none, none, none, none, none] [] h13 (F_X6_copy_J53 q12 h13) := by
  unfold F_X6_copy_J53
  refine g_aload_n (i := 0) C dX6_copy_53 rfl rfl ?_
  refine g_iconst (v := 1) C dX6_copy_54 (by decide) ?_
  refine g_cVi1 C cf_X6_71 cv_X6_faulty eq12 (fun r h' e => c_X6_faulty E q12 (1 : Int32) eq12 h13 e) (by decide) (by decide) (Nat.le_of_ble_eq_true rfl) dX6_copy_55 (fun r15 h14 _ => ?_)
  exact g_ireti C dX6_copy_58
set_option maxHeartbeats 4000000 in
set_option maxRecDepth 100000 in
theorem G_F_X6_copy_J101 {E : Ev} {X : Cx} (C : Ok E X cX6_copy RX6 8 (some .int) 2) (q20 : Nat) (eq20 : isO shC q20 6 = true) (h21 : Hp) : G E shC X vi 101 [some (.ref (E.2.2.2 + q20)), none, none, none, none, none, none, none] [] h21 (F_X6_copy_J101 q20 h21) := by
  unfold F_X6_copy_J101
  refine g_aload_n (i := 0) C dX6_copy_101 rfl rfl ?_
  refine g_iconst (v := 3) C dX6_copy_102 (by decide) ?_
  refine g_cVi1 C cf_X6_71 cv_X6_faulty eq20 (fun r h' e => c_X6_faulty E q20 (3 : Int32) eq20 h21 e) (by decide) (by decide) (Nat.le_of_ble_eq_true rfl) dX6_copy_103 (fun r23 h22 _ => ?_)
  exact g_ireti C dX6_copy_106
set_option maxHeartbeats 4000000 in
set_option maxRecDepth 100000 in
theorem c_X6_copy (E : Ev) (o : Nat) (p0 : Int32) (p1 : Int32) (p2 : Int32) (p3 : Int32) (p4 : Int32) (eo : isO shC o 6 = true) (h : Hp) {r : Int32} {h' : Hp} (e : F_X6_copy o p0 p1 p2 p3 p4 h = some (r, h')) : Ctr E shC yX6_copy cX6_copy 8 (some .int) 2 [.ref (E.2.2.2 + o), .int p0, .int p1, .int p2, .int p3, .int p4] h (vi r) h' := by
  refine Ctr.ofG (val := vi) e (by decide) (Nat.le_of_ble_eq_true rfl) [some (.ref (E.2.2.2 + o)), some (.int p0), some (.int p1), some (.int p2), some (.int p3), some (.int p4), none, none] rfl (fun X C => ?_)
  unfold F_X6_copy
  refine g_aload_n (i := 0) C dX6_copy_0 rfl rfl ?_
  refine g_iconst (v := 0) C dX6_copy_1 (by decide) ?_
  refine g_putI C f_X6_52 eo dX6_copy_2 (fun h1 => ?_)
  refine g_iload_n (i := 1) C dX6_copy_5 rfl rfl ?_
  refine g_cSi1 C cf_X6_56 aw_21 (fun r h' e => c_X6_isSheet E p0 h1 e) (by decide) (by decide) (Nat.le_of_ble_eq_true rfl) dX6_copy_6 (fun r3 h2 _ => ?_)
  refine g_if_eq C 19 dX6_copy_9 (by decide) (fun hc37 => ?_) (fun hc37 => ?_)
  · refine g_iconst (v := -1) C dX6_copy_19 (by decide) ?_
    exact g_ireti C dX6_copy_20
  · refine g_iload_n (i := 3) C dX6_copy_12 rfl rfl ?_
    refine g_cSi1 C cf_X6_56 aw_21 (fun r h' e => c_X6_isSheet E p2 h2 e) (by decide) (by decide) (Nat.le_of_ble_eq_true rfl) dX6_copy_13 (fun r5 h4 _ => ?_)
    refine g_if_ne C 21 dX6_copy_16 (by decide) (fun hc36 => ?_) (fun hc36 => ?_)
    · refine g_iconst (v := -1) C dX6_copy_19 (by decide) ?_
      exact g_ireti C dX6_copy_20
    · refine g_aload_n (i := 0) C dX6_copy_21 rfl rfl ?_
      refine g_getA C f_X6_13 eo dX6_copy_22 (fun q6 _ => ?_)
      refine g_iload_n (i := 1) C dX6_copy_25 rfl rfl ?_
      refine g_aaldO C dX6_copy_26 (fun q7 _ eq7 => ?_)
      refine g_astore (i := 6) C [some (.ref (E.2.2.2 + o)), some (.int p0), some (.int p1), some (.int p2), some (.int p3), some (.int p4), some (.ref (E.2.2.2 + q7)), none] dX6_copy_27 (by decide) rfl rfl ?_
      refine g_aload_n (i := 0) C dX6_copy_29 rfl rfl ?_
      refine g_getA C f_X6_13 eo dX6_copy_30 (fun q8 _ => ?_)
      refine g_iload_n (i := 3) C dX6_copy_33 rfl rfl ?_
      refine g_aaldO C dX6_copy_34 (fun q9 _ eq9 => ?_)
      refine g_astore (i := 7) C [some (.ref (E.2.2.2 + o)), some (.int p0), some (.int p1), some (.int p2), some (.int p3), some (.int p4), some (.ref (E.2.2.2 + q7)), some (.ref (E.2.2.2 + q9))] dX6_copy_35 (by decide) rfl rfl ?_
      refine g_aload (i := 6) C dX6_copy_37 rfl ?_
      refine g_cVi0 C cf_X6_214 cv_X1_hasNothing eq7 (fun r h' e => c_X1_hasNothing E q7 eq7 h4 e) (by decide) (by decide) (Nat.le_of_ble_eq_true rfl) dX6_copy_39 (fun r11 h10 _ => ?_)
      refine g_if_ne C 53 dX6_copy_42 (by decide) (fun hc35 => ?_) (fun hc35 => ?_)
      · refine g_aload (i := 7) C dX6_copy_45 rfl ?_
        refine g_cVi0 C cf_X6_214 cv_X1_hasNothing eq9 (fun r h' e => c_X1_hasNothing E q9 eq9 h10 e) (by decide) (by decide) (Nat.le_of_ble_eq_true rfl) dX6_copy_47 (fun r17 h16 _ => ?_)
        refine g_if_eq C 59 dX6_copy_50 (by decide) (fun hc34 => ?_) (fun hc34 => ?_)
        · refine g_aload (i := 6) C dX6_copy_59 rfl ?_
          refine g_getI C f_X6_220 eq7 dX6_copy_61 ?_
          refine g_aload (i := 7) C dX6_copy_64 rfl ?_
          refine g_getI C f_X6_220 eq9 dX6_copy_66 ?_
          refine g_icmp_eq C 78 dX6_copy_69 (by decide) (fun hc33 => ?_) (fun hc33 => ?_)
          · refine g_aload (i := 6) C dX6_copy_78 rfl ?_
            refine g_iload_n (i := 2) C dX6_copy_80 rfl rfl ?_
            refine g_iload (i := 5) C dX6_copy_81 rfl ?_
            refine g_cVi2 C cf_X6_67 cv_X1_hasCells eq7 (fun r h' e => c_X1_hasCells E q7 p1 p4 eq7 h16 e) (by decide) (by decide) (Nat.le_of_ble_eq_true rfl) dX6_copy_83 (fun r19 h18 _ => ?_)
            refine g_if_eq C 101 dX6_copy_86 (by decide) (fun hc30 => ?_) (fun hc30 => ?_)
            · refine g_drop (i := 1) [some (.ref (E.2.2.2 + o)), none, some (.int p1), some (.int p2), some (.int p3), some (.int p4), some (.ref (E.2.2.2 + q7)), some (.ref (E.2.2.2 + q9))] rfl ?_
              refine g_drop (i := 2) [some (.ref (E.2.2.2 + o)), none, none, some (.int p2), some (.int p3), some (.int p4), some (.ref (E.2.2.2 + q7)), some (.ref (E.2.2.2 + q9))] rfl ?_
              refine g_drop (i := 3) [some (.ref (E.2.2.2 + o)), none, none, none, some (.int p3), some (.int p4), some (.ref (E.2.2.2 + q7)), some (.ref (E.2.2.2 + q9))] rfl ?_
              refine g_drop (i := 4) [some (.ref (E.2.2.2 + o)), none, none, none, none, some (.int p4), some (.ref (E.2.2.2 + q7)), some (.ref (E.2.2.2 + q9))] rfl ?_
              refine g_drop (i := 5) [some (.ref (E.2.2.2 + o)), none, none, none, none, none, some (.ref (E.2.2.2 + q7)), some (.ref (E.2.2.2 + q9))] rfl ?_
              refine g_drop (i := 6) [some (.ref (E.2.2.2 + o)), none, none, none, none, none, none, some (.ref (E.2.2.2 + q9))] rfl ?_
              refine g_drop (i := 7) [some (.ref (E.2.2.2 + o)), none, none, none, none, none, none, none] rfl ?_
              exact G_F_X6_copy_J101 C o eo h18
            · refine g_aload (i := 7) C dX6_copy_89 rfl ?_
              refine g_iload (i := 4) C dX6_copy_91 rfl ?_
              refine g_iload (i := 5) C dX6_copy_93 rfl ?_
              refine g_cVi2 C cf_X6_67 cv_X1_hasCells eq9 (fun r h' e => c_X1_hasCells E q9 p3 p4 eq9 h18 e) (by decide) (by decide) (Nat.le_of_ble_eq_true rfl) dX6_copy_95 (fun r25 h24 _ => ?_)
              refine g_if_ne C 107 dX6_copy_98 (by decide) (fun hc29 => ?_) (fun hc29 => ?_)
              · refine g_drop (i := 1) [some (.ref (E.2.2.2 + o)), none, some (.int p1), some (.int p2), some (.int p3), some (.int p4), some (.ref (E.2.2.2 + q7)), some (.ref (E.2.2.2 + q9))] rfl ?_
                refine g_drop (i := 2) [some (.ref (E.2.2.2 + o)), none, none, some (.int p2), some (.int p3), some (.int p4), some (.ref (E.2.2.2 + q7)), some (.ref (E.2.2.2 + q9))] rfl ?_
                refine g_drop (i := 3) [some (.ref (E.2.2.2 + o)), none, none, none, some (.int p3), some (.int p4), some (.ref (E.2.2.2 + q7)), some (.ref (E.2.2.2 + q9))] rfl ?_
                refine g_drop (i := 4) [some (.ref (E.2.2.2 + o)), none, none, none, none, some (.int p4), some (.ref (E.2.2.2 + q7)), some (.ref (E.2.2.2 + q9))] rfl ?_
                refine g_drop (i := 5) [some (.ref (E.2.2.2 + o)), none, none, none, none, none, some (.ref (E.2.2.2 + q7)), some (.ref (E.2.2.2 + q9))] rfl ?_
                refine g_drop (i := 6) [some (.ref (E.2.2.2 + o)), none, none, none, none, none, none, some (.ref (E.2.2.2 + q9))] rfl ?_
                refine g_drop (i := 7) [some (.ref (E.2.2.2 + o)), none, none, none, none, none, none, none] rfl ?_
                exact G_F_X6_copy_J101 C o eo h24
              · refine g_aload (i := 6) C dX6_copy_107 rfl ?_
                refine g_getA C f_X6_74 eq7 dX6_copy_109 (fun q26 _ => ?_)
                refine g_iload_n (i := 2) C dX6_copy_112 rfl rfl ?_
                refine g_aload (i := 7) C dX6_copy_113 rfl ?_
                refine g_getA C f_X6_74 eq9 dX6_copy_115 (fun q27 _ => ?_)
                refine g_iload (i := 4) C dX6_copy_118 rfl ?_
                refine g_iload (i := 5) C dX6_copy_120 rfl ?_
                refine g_copy C ⟨aw_22, aw_14, aw_15, aw_16⟩ (by decide) (Nat.le_of_ble_eq_true rfl) dX6_copy_122 (fun h28 => ?_)
                refine g_iload (i := 5) C dX6_copy_125 rfl ?_
                exact g_ireti C dX6_copy_127
          · refine g_aload_n (i := 0) C dX6_copy_72 rfl rfl ?_
            refine g_iconst (v := 2) C dX6_copy_73 (by decide) ?_
            refine g_cVi1 C cf_X6_71 cv_X6_faulty eo (fun r h' e => c_X6_faulty E o (2 : Int32) eo h16 e) (by decide) (by decide) (Nat.le_of_ble_eq_true rfl) dX6_copy_74 (fun r32 h31 _ => ?_)
            exact g_ireti C dX6_copy_77
        · refine g_drop (i := 1) [some (.ref (E.2.2.2 + o)), none, some (.int p1), some (.int p2), some (.int p3), some (.int p4), some (.ref (E.2.2.2 + q7)), some (.ref (E.2.2.2 + q9))] rfl ?_
          refine g_drop (i := 2) [some (.ref (E.2.2.2 + o)), none, none, some (.int p2), some (.int p3), some (.int p4), some (.ref (E.2.2.2 + q7)), some (.ref (E.2.2.2 + q9))] rfl ?_
          refine g_drop (i := 3) [some (.ref (E.2.2.2 + o)), none, none, none, some (.int p3), some (.int p4), some (.ref (E.2.2.2 + q7)), some (.ref (E.2.2.2 + q9))] rfl ?_
          refine g_drop (i := 4) [some (.ref (E.2.2.2 + o)), none, none, none, none, some (.int p4), some (.ref (E.2.2.2 + q7)), some (.ref (E.2.2.2 + q9))] rfl ?_
          refine g_drop (i := 5) [some (.ref (E.2.2.2 + o)), none, none, none, none, none, some (.ref (E.2.2.2 + q7)), some (.ref (E.2.2.2 + q9))] rfl ?_
          refine g_drop (i := 6) [some (.ref (E.2.2.2 + o)), none, none, none, none, none, none, some (.ref (E.2.2.2 + q9))] rfl ?_
          refine g_drop (i := 7) [some (.ref (E.2.2.2 + o)), none, none, none, none, none, none, none] rfl ?_
          exact G_F_X6_copy_J53 C o eo h16
      · refine g_drop (i := 1) [some (.ref (E.2.2.2 + o)), none, some (.int p1), some (.int p2), some (.int p3), some (.int p4), some (.ref (E.2.2.2 + q7)), some (.ref (E.2.2.2 + q9))] rfl ?_
        refine g_drop (i := 2) [some (.ref (E.2.2.2 + o)), none, none, some (.int p2), some (.int p3), some (.int p4), some (.ref (E.2.2.2 + q7)), some (.ref (E.2.2.2 + q9))] rfl ?_
        refine g_drop (i := 3) [some (.ref (E.2.2.2 + o)), none, none, none, some (.int p3), some (.int p4), some (.ref (E.2.2.2 + q7)), some (.ref (E.2.2.2 + q9))] rfl ?_
        refine g_drop (i := 4) [some (.ref (E.2.2.2 + o)), none, none, none, none, some (.int p4), some (.ref (E.2.2.2 + q7)), some (.ref (E.2.2.2 + q9))] rfl ?_
        refine g_drop (i := 5) [some (.ref (E.2.2.2 + o)), none, none, none, none, none, some (.ref (E.2.2.2 + q7)), some (.ref (E.2.2.2 + q9))] rfl ?_
        refine g_drop (i := 6) [some (.ref (E.2.2.2 + o)), none, none, none, none, none, none, some (.ref (E.2.2.2 + q9))] rfl ?_
        refine g_drop (i := 7) [some (.ref (E.2.2.2 + o)), none, none, none, none, none, none, none] rfl ?_
        exact G_F_X6_copy_J53 C o eo h10
set_option maxHeartbeats 4000000 in
set_option maxRecDepth 100000 in
theorem G_F_X6_cutPairs_L10 {E : Ev} {X : Cx} (C : Ok E X cX6_cutPairs RX6 11 (some .int) 3) (k117 : Int32 → Int32 → Hp → Option (Int32 × Hp)) (q1 : Nat) (q2 : Nat) (x3 : Int32) (x4 : Int32) (x5 : Int32) (hk117 : ∀ (z5 : Int32) (z6 : Int32) (hh : Hp), G E shC X vi 117 [none, none, none, none, some (.int x5), some (.int z5), some (.int z6), none, none, none, none] [] hh (k117 z5 z6 hh)) (eq1 : isO shC q1 6 = true) : ∀ (N : Nat) (x6 : Int32) (x7 : Int32) (x8 : Int32) (h9 : Hp), G E shC X vi 10 [some (.ref (E.2.2.2 + q1)), some (.ref (E.2.2.2 + q2)), some (.int x3), some (.int x4), some (.int x5), some (.int x6), some (.int x7), some (.int x8), none, none, none] [] h9 (F_X6_cutPairs_L10 k117 q1 q2 x3 x4 x5 N x6 x7 x8 h9) := by
  intro N
  induction N with
  | zero =>
    intro _ _ _ _
    exact g_none
  | succ N ih =>
    intro x6 x7 x8 h9
    rw [F_X6_cutPairs_L10]
    refine g_iload (i := 7) C dX6_cutPairs_10 rfl ?_
    refine g_iload_n (i := 3) C dX6_cutPairs_12 rfl rfl ?_
    refine g_icmp_ge C 117 dX6_cutPairs_13 (by decide) (fun hc29 => ?_) (fun hc29 => ?_)
    · refine g_drop (i := 0) [none, some (.ref (E.2.2.2 + q2)), some (.int x3), some (.int x4), some (.int x5), some (.int x6), some (.int x7), some (.int x8), none, none, none] rfl ?_
      refine g_drop (i := 1) [none, none, some (.int x3), some (.int x4), some (.int x5), some (.int x6), some (.int x7), some (.int x8), none, none, none] rfl ?_
      refine g_drop (i := 2) [none, none, none, some (.int x4), some (.int x5), some (.int x6), some (.int x7), some (.int x8), none, none, none] rfl ?_
      refine g_drop (i := 3) [none, none, none, none, some (.int x5), some (.int x6), some (.int x7), some (.int x8), none, none, none] rfl ?_
      refine g_drop (i := 7) [none, none, none, none, some (.int x5), some (.int x6), some (.int x7), none, none, none, none] rfl ?_
      exact hk117 x6 x7 h9
    · refine g_aload_n (i := 1) C dX6_cutPairs_16 rfl rfl ?_
      refine g_iload_n (i := 2) C dX6_cutPairs_17 rfl rfl ?_
      refine g_iconst (v := 2) C dX6_cutPairs_18 (by decide) ?_
      refine g_iload (i := 7) C dX6_cutPairs_19 rfl ?_
      refine g_imul C dX6_cutPairs_21 ?_
      refine g_iadd C dX6_cutPairs_22 ?_
      refine g_iald C dX6_cutPairs_23 ?_
      refine g_topi (fun x10 => ?_)
      refine g_istore (i := 8) C [some (.ref (E.2.2.2 + q1)), some (.ref (E.2.2.2 + q2)), some (.int x3), some (.int x4), some (.int x5), some (.int x6), some (.int x7), some (.int x8), some (.int x10), none, none] dX6_cutPairs_24 (by decide) rfl rfl ?_
      refine g_aload_n (i := 1) C dX6_cutPairs_26 rfl rfl ?_
      refine g_iload_n (i := 2) C dX6_cutPairs_27 rfl rfl ?_
      refine g_iconst (v := 2) C dX6_cutPairs_28 (by decide) ?_
      refine g_iload (i := 7) C dX6_cutPairs_29 rfl ?_
      refine g_imul C dX6_cutPairs_31 ?_
      refine g_iadd C dX6_cutPairs_32 ?_
      refine g_iconst (v := 1) C dX6_cutPairs_33 (by decide) ?_
      refine g_iadd C dX6_cutPairs_34 ?_
      refine g_iald C dX6_cutPairs_35 ?_
      refine g_topi (fun x11 => ?_)
      refine g_istore (i := 9) C [some (.ref (E.2.2.2 + q1)), some (.ref (E.2.2.2 + q2)), some (.int x3), some (.int x4), some (.int x5), some (.int x6), some (.int x7), some (.int x8), some (.int x10), some (.int x11), none] dX6_cutPairs_36 (by decide) rfl rfl ?_
      refine g_aload_n (i := 0) C dX6_cutPairs_38 rfl rfl ?_
      refine g_iload (i := 8) C dX6_cutPairs_39 rfl ?_
      refine g_cVi1 C cf_X6_85 cv_X6_isCheese eq1 (fun r h' e => c_X6_isCheese E q1 x10 eq1 h9 e) (by decide) (by decide) (Nat.le_of_ble_eq_true rfl) dX6_cutPairs_41 (fun r13 h12 _ => ?_)
      refine g_if_ne C 49 dX6_cutPairs_44 (by decide) (fun hc28 => ?_) (fun hc28 => ?_)
      · refine g_iconst (v := -1) C dX6_cutPairs_47 (by decide) ?_
        exact g_ireti C dX6_cutPairs_48
      · refine g_iload (i := 9) C dX6_cutPairs_49 rfl ?_
        refine g_if_lt C 61 dX6_cutPairs_51 (by decide) (fun hc27 => ?_) (fun hc27 => ?_)
        · refine g_bipush (v := -2) C dX6_cutPairs_61 (by decide) ?_
          exact g_ireti C dX6_cutPairs_63
        · refine g_iload (i := 9) C dX6_cutPairs_54 rfl ?_
          refine g_bipush (v := 8) C dX6_cutPairs_56 (by decide) ?_
          refine g_icmp_le C 64 dX6_cutPairs_58 (by decide) (fun hc26 => ?_) (fun hc26 => ?_)
          · refine g_iload (i := 5) C dX6_cutPairs_64 rfl ?_
            refine g_aload_n (i := 0) C dX6_cutPairs_66 rfl rfl ?_
            refine g_getO C f_X6_41 eq1 dX6_cutPairs_67 (fun q14 _ eq14 => ?_)
            refine g_aload_n (i := 0) C dX6_cutPairs_70 rfl rfl ?_
            refine g_getO C f_X6_41 eq1 dX6_cutPairs_71 (fun q15 _ eq15 => ?_)
            refine g_iload (i := 8) C dX6_cutPairs_74 rfl ?_
            refine g_bipush (v := -9) C dX6_cutPairs_76 (by decide) ?_
            refine g_cVi2 C cf_X6_138 cv_X0_talksTo eq15 (fun r h' e => c_X0_talksTo E q15 x10 (-9 : Int32) eq15 h12 e) (by decide) (by decide) (Nat.le_of_ble_eq_true rfl) dX6_cutPairs_78 (fun r17 h16 _ => ?_)
            refine g_iload (i := 9) C dX6_cutPairs_81 rfl ?_
            refine g_cVi2 C cf_X6_158 cv_X0_wordsDown eq14 (fun r h' e => c_X0_wordsDown E q14 r17 x11 eq14 h16 e) (by decide) (by decide) (Nat.le_of_ble_eq_true rfl) dX6_cutPairs_83 (fun r19 h18 _ => ?_)
            refine g_ior C dX6_cutPairs_86 ?_
            refine g_topi (fun x20 => ?_)
            refine g_istore (i := 10) C [some (.ref (E.2.2.2 + q1)), some (.ref (E.2.2.2 + q2)), some (.int x3), some (.int x4), some (.int x5), some (.int x6), some (.int x7), some (.int x8), some (.int x10), some (.int x11), some (.int x20)] dX6_cutPairs_87 (by decide) rfl rfl ?_
            refine g_iload (i := 10) C dX6_cutPairs_89 rfl ?_
            refine g_iload (i := 5) C dX6_cutPairs_91 rfl ?_
            refine g_icmp_ne C 107 dX6_cutPairs_93 (by decide) (fun hc25 => ?_) (fun hc25 => ?_)
            · refine g_iload (i := 6) C dX6_cutPairs_96 rfl ?_
              refine g_bipush (v := -9) C dX6_cutPairs_98 (by decide) ?_
              refine g_icmp_ne C 107 dX6_cutPairs_100 (by decide) (fun hc24 => ?_) (fun hc24 => ?_)
              · refine g_iload (i := 7) C dX6_cutPairs_103 rfl ?_
                refine g_istore (i := 6) C [some (.ref (E.2.2.2 + q1)), some (.ref (E.2.2.2 + q2)), some (.int x3), some (.int x4), some (.int x5), some (.int x6), some (.int x8), some (.int x8), some (.int x10), some (.int x11), some (.int x20)] dX6_cutPairs_105 (by decide) rfl rfl ?_
                refine g_iload (i := 10) C dX6_cutPairs_107 rfl ?_
                refine g_istore (i := 5) C [some (.ref (E.2.2.2 + q1)), some (.ref (E.2.2.2 + q2)), some (.int x3), some (.int x4), some (.int x5), some (.int x20), some (.int x8), some (.int x8), some (.int x10), some (.int x11), some (.int x20)] dX6_cutPairs_109 (by decide) rfl rfl ?_
                refine g_iinc (i := 7) (w := 1) C (fun yy => [some (.ref (E.2.2.2 + q1)), some (.ref (E.2.2.2 + q2)), some (.int x3), some (.int x4), some (.int x5), some (.int x20), some (.int x8), some (.int yy), some (.int x10), some (.int x11), some (.int x20)]) dX6_cutPairs_111 rfl (by decide) rfl (by decide) rfl (fun _ => rfl) (fun x23 => ?_)
                refine g_goto C 10 dX6_cutPairs_114 (by decide) ?_
                refine g_drop (i := 8) [some (.ref (E.2.2.2 + q1)), some (.ref (E.2.2.2 + q2)), some (.int x3), some (.int x4), some (.int x5), some (.int x20), some (.int x8), some (.int x23), none, some (.int x11), some (.int x20)] rfl ?_
                refine g_drop (i := 9) [some (.ref (E.2.2.2 + q1)), some (.ref (E.2.2.2 + q2)), some (.int x3), some (.int x4), some (.int x5), some (.int x20), some (.int x8), some (.int x23), none, none, some (.int x20)] rfl ?_
                refine g_drop (i := 10) [some (.ref (E.2.2.2 + q1)), some (.ref (E.2.2.2 + q2)), some (.int x3), some (.int x4), some (.int x5), some (.int x20), some (.int x8), some (.int x23), none, none, none] rfl ?_
                exact ih x20 x8 x23 h18
              · refine g_iload (i := 10) C dX6_cutPairs_107 rfl ?_
                refine g_istore (i := 5) C [some (.ref (E.2.2.2 + q1)), some (.ref (E.2.2.2 + q2)), some (.int x3), some (.int x4), some (.int x5), some (.int x20), some (.int x7), some (.int x8), some (.int x10), some (.int x11), some (.int x20)] dX6_cutPairs_109 (by decide) rfl rfl ?_
                refine g_iinc (i := 7) (w := 1) C (fun yy => [some (.ref (E.2.2.2 + q1)), some (.ref (E.2.2.2 + q2)), some (.int x3), some (.int x4), some (.int x5), some (.int x20), some (.int x7), some (.int yy), some (.int x10), some (.int x11), some (.int x20)]) dX6_cutPairs_111 rfl (by decide) rfl (by decide) rfl (fun _ => rfl) (fun x22 => ?_)
                refine g_goto C 10 dX6_cutPairs_114 (by decide) ?_
                refine g_drop (i := 8) [some (.ref (E.2.2.2 + q1)), some (.ref (E.2.2.2 + q2)), some (.int x3), some (.int x4), some (.int x5), some (.int x20), some (.int x7), some (.int x22), none, some (.int x11), some (.int x20)] rfl ?_
                refine g_drop (i := 9) [some (.ref (E.2.2.2 + q1)), some (.ref (E.2.2.2 + q2)), some (.int x3), some (.int x4), some (.int x5), some (.int x20), some (.int x7), some (.int x22), none, none, some (.int x20)] rfl ?_
                refine g_drop (i := 10) [some (.ref (E.2.2.2 + q1)), some (.ref (E.2.2.2 + q2)), some (.int x3), some (.int x4), some (.int x5), some (.int x20), some (.int x7), some (.int x22), none, none, none] rfl ?_
                exact ih x20 x7 x22 h18
            · refine g_iload (i := 10) C dX6_cutPairs_107 rfl ?_
              refine g_istore (i := 5) C [some (.ref (E.2.2.2 + q1)), some (.ref (E.2.2.2 + q2)), some (.int x3), some (.int x4), some (.int x5), some (.int x20), some (.int x7), some (.int x8), some (.int x10), some (.int x11), some (.int x20)] dX6_cutPairs_109 (by decide) rfl rfl ?_
              refine g_iinc (i := 7) (w := 1) C (fun yy => [some (.ref (E.2.2.2 + q1)), some (.ref (E.2.2.2 + q2)), some (.int x3), some (.int x4), some (.int x5), some (.int x20), some (.int x7), some (.int yy), some (.int x10), some (.int x11), some (.int x20)]) dX6_cutPairs_111 rfl (by decide) rfl (by decide) rfl (fun _ => rfl) (fun x21 => ?_)
              refine g_goto C 10 dX6_cutPairs_114 (by decide) ?_
              refine g_drop (i := 8) [some (.ref (E.2.2.2 + q1)), some (.ref (E.2.2.2 + q2)), some (.int x3), some (.int x4), some (.int x5), some (.int x20), some (.int x7), some (.int x21), none, some (.int x11), some (.int x20)] rfl ?_
              refine g_drop (i := 9) [some (.ref (E.2.2.2 + q1)), some (.ref (E.2.2.2 + q2)), some (.int x3), some (.int x4), some (.int x5), some (.int x20), some (.int x7), some (.int x21), none, none, some (.int x20)] rfl ?_
              refine g_drop (i := 10) [some (.ref (E.2.2.2 + q1)), some (.ref (E.2.2.2 + q2)), some (.int x3), some (.int x4), some (.int x5), some (.int x20), some (.int x7), some (.int x21), none, none, none] rfl ?_
              exact ih x20 x7 x21 h18
          · refine g_bipush (v := -2) C dX6_cutPairs_61 (by decide) ?_
            exact g_ireti C dX6_cutPairs_63
set_option maxHeartbeats 4000000 in
set_option maxRecDepth 100000 in
theorem c_X6_cutPairs (E : Ev) (o : Nat) (p0 : Nat) (p1 : Int32) (p2 : Int32) (p3 : Int32) (eo : isO shC o 6 = true) (h : Hp) {r : Int32} {h' : Hp} (e : F_X6_cutPairs o p0 p1 p2 p3 h = some (r, h')) : Ctr E shC yX6_cutPairs cX6_cutPairs 11 (some .int) 3 [.ref (E.2.2.2 + o), .ref (E.2.2.2 + p0), .int p1, .int p2, .int p3] h (vi r) h' := by
  refine Ctr.ofG (val := vi) e (by decide) (Nat.le_of_ble_eq_true rfl) [some (.ref (E.2.2.2 + o)), some (.ref (E.2.2.2 + p0)), some (.int p1), some (.int p2), some (.int p3), none, none, none, none, none, none] rfl (fun X C => ?_)
  unfold F_X6_cutPairs
  refine g_iconst (v := 0) C dX6_cutPairs_0 (by decide) ?_
  refine g_istore (i := 5) C [some (.ref (E.2.2.2 + o)), some (.ref (E.2.2.2 + p0)), some (.int p1), some (.int p2), some (.int p3), some (.int (0 : Int32)), none, none, none, none, none] dX6_cutPairs_1 (by decide) rfl rfl ?_
  refine g_bipush (v := -9) C dX6_cutPairs_3 (by decide) ?_
  refine g_istore (i := 6) C [some (.ref (E.2.2.2 + o)), some (.ref (E.2.2.2 + p0)), some (.int p1), some (.int p2), some (.int p3), some (.int (0 : Int32)), some (.int (-9 : Int32)), none, none, none, none] dX6_cutPairs_5 (by decide) rfl rfl ?_
  refine g_iconst (v := 0) C dX6_cutPairs_7 (by decide) ?_
  refine g_istore (i := 7) C [some (.ref (E.2.2.2 + o)), some (.ref (E.2.2.2 + p0)), some (.int p1), some (.int p2), some (.int p3), some (.int (0 : Int32)), some (.int (-9 : Int32)), some (.int (0 : Int32)), none, none, none] dX6_cutPairs_8 (by decide) rfl rfl ?_
  refine G_F_X6_cutPairs_L10 C _ o p0 p1 p2 p3 (fun w30 w31 h32 => ?_) eo FU (0 : Int32) (-9 : Int32) (0 : Int32) h
  refine g_iload (i := 4) C dX6_cutPairs_117 rfl ?_
  refine g_if_ne C 127 dX6_cutPairs_119 (by decide) (fun hc33 => ?_) (fun hc33 => ?_)
  · refine g_iload (i := 5) C dX6_cutPairs_122 rfl ?_
    refine g_goto C 129 dX6_cutPairs_124 (by decide) ?_
    exact g_ireti C dX6_cutPairs_129
  · refine g_iload (i := 6) C dX6_cutPairs_127 rfl ?_
    exact g_ireti C dX6_cutPairs_129
set_option maxHeartbeats 4000000 in
set_option maxRecDepth 100000 in
theorem G_F_X6_cuts_J84 {E : Ev} {X : Cx} (C : Ok E X cX6_cuts RX6 8 (some .int) 4) (q10 : Nat) (x11 : Int32) (x12 : Int32) (x13 : Int32) (q14 : Nat) (x15 : Int32) (eq10 : isO shC q10 6 = true) (eq14 : isO shC q14 1 = true) (h16 : Hp) : G E shC X vi 84 [some (.ref (E.2.2.2 + q10)), none, none, some (.int x11), some (.int x12), some (.int x13), some (.ref (E.2.2.2 + q14)), some (.int x15)] [] h16 (F_X6_cuts_J84 q10 x11 x12 x13 q14 x15 h16) := by
  unfold F_X6_cuts_J84
  refine g_iload (i := 7) C dX6_cuts_84 rfl ?_
  refine g_if_eq C 96 dX6_cuts_86 (by decide) (fun hc25 => ?_) (fun hc25 => ?_)
  · refine g_aload_n (i := 0) C dX6_cuts_96 rfl rfl ?_
    refine g_cVi0 C cf_X6_150 cv_X6_hasNoDairy eq10 (fun r h' e => c_X6_hasNoDairy E q10 eq10 h16 e) (by decide) (by decide) (Nat.le_of_ble_eq_true rfl) dX6_cuts_97 (fun r18 h17 _ => ?_)
    refine g_if_eq C 108 dX6_cuts_100 (by decide) (fun hc22 => ?_) (fun hc22 => ?_)
    · refine g_aload_n (i := 0) C dX6_cuts_108 rfl rfl ?_
      refine g_aload (i := 6) C dX6_cuts_109 rfl ?_
      refine g_getA C f_X6_74 eq14 dX6_cuts_111 (fun q19 _ => ?_)
      refine g_iload_n (i := 3) C dX6_cuts_114 rfl rfl ?_
      refine g_iload (i := 4) C dX6_cuts_115 rfl ?_
      refine g_iload (i := 5) C dX6_cuts_117 rfl ?_
      refine g_cVi4 C cf_X6_154 cv_X6_cutPairs eq10 (fun r h' e => c_X6_cutPairs E q10 q19 x11 x12 x13 eq10 h17 e) (by decide) (by decide) (Nat.le_of_ble_eq_true rfl) dX6_cuts_119 (fun r21 h20 _ => ?_)
      exact g_ireti C dX6_cuts_122
    · refine g_bipush (v := -3) C dX6_cuts_103 (by decide) ?_
      refine g_goto C 122 dX6_cuts_105 (by decide) ?_
      exact g_ireti C dX6_cuts_122
  · refine g_aload_n (i := 0) C dX6_cuts_89 rfl rfl ?_
    refine g_iload (i := 7) C dX6_cuts_90 rfl ?_
    refine g_cVi1 C cf_X6_71 cv_X6_faulty eq10 (fun r h' e => c_X6_faulty E q10 x15 eq10 h16 e) (by decide) (by decide) (Nat.le_of_ble_eq_true rfl) dX6_cuts_92 (fun r24 h23 _ => ?_)
    exact g_ireti C dX6_cuts_95
set_option maxHeartbeats 4000000 in
set_option maxRecDepth 100000 in
theorem c_X6_cuts (E : Ev) (o : Nat) (p0 : Int32) (p1 : Int32) (p2 : Int32) (p3 : Int32) (p4 : Int32) (eo : isO shC o 6 = true) (h : Hp) {r : Int32} {h' : Hp} (e : F_X6_cuts o p0 p1 p2 p3 p4 h = some (r, h')) : Ctr E shC yX6_cuts cX6_cuts 8 (some .int) 4 [.ref (E.2.2.2 + o), .int p0, .int p1, .int p2, .int p3, .int p4] h (vi r) h' := by
  refine Ctr.ofG (val := vi) e (by decide) (Nat.le_of_ble_eq_true rfl) [some (.ref (E.2.2.2 + o)), some (.int p0), some (.int p1), some (.int p2), some (.int p3), some (.int p4), none, none] rfl (fun X C => ?_)
  unfold F_X6_cuts
  refine g_aload_n (i := 0) C dX6_cuts_0 rfl rfl ?_
  refine g_iconst (v := 0) C dX6_cuts_1 (by decide) ?_
  refine g_putI C f_X6_52 eo dX6_cuts_2 (fun h1 => ?_)
  refine g_iload_n (i := 1) C dX6_cuts_5 rfl rfl ?_
  refine g_cSi1 C cf_X6_56 aw_21 (fun r h' e => c_X6_isSheet E p0 h1 e) (by decide) (by decide) (Nat.le_of_ble_eq_true rfl) dX6_cuts_6 (fun r3 h2 _ => ?_)
  refine g_if_ne C 14 dX6_cuts_9 (by decide) (fun hc35 => ?_) (fun hc35 => ?_)
  · refine g_iconst (v := -1) C dX6_cuts_12 (by decide) ?_
    exact g_ireti C dX6_cuts_13
  · refine g_iload_n (i := 2) C dX6_cuts_14 rfl rfl ?_
    refine g_cSi1 C cf_X6_60 aw_20 (fun r h' e => c_X6_isLane E p1 h2 e) (by decide) (by decide) (Nat.le_of_ble_eq_true rfl) dX6_cuts_15 (fun r5 h4 _ => ?_)
    refine g_if_eq C 44 dX6_cuts_18 (by decide) (fun hc34 => ?_) (fun hc34 => ?_)
    · refine g_bipush (v := -2) C dX6_cuts_44 (by decide) ?_
      exact g_ireti C dX6_cuts_46
    · refine g_iload (i := 4) C dX6_cuts_21 rfl ?_
      refine g_if_lt C 44 dX6_cuts_23 (by decide) (fun hc33 => ?_) (fun hc33 => ?_)
      · refine g_bipush (v := -2) C dX6_cuts_44 (by decide) ?_
        exact g_ireti C dX6_cuts_46
      · refine g_iload (i := 4) C dX6_cuts_26 rfl ?_
        refine g_bipush (v := 20) C dX6_cuts_28 (by decide) ?_
        refine g_icmp_gt C 44 dX6_cuts_30 (by decide) (fun hc32 => ?_) (fun hc32 => ?_)
        · refine g_bipush (v := -2) C dX6_cuts_44 (by decide) ?_
          exact g_ireti C dX6_cuts_46
        · refine g_iload (i := 5) C dX6_cuts_33 rfl ?_
          refine g_if_lt C 44 dX6_cuts_35 (by decide) (fun hc31 => ?_) (fun hc31 => ?_)
          · refine g_bipush (v := -2) C dX6_cuts_44 (by decide) ?_
            exact g_ireti C dX6_cuts_46
          · refine g_iload (i := 5) C dX6_cuts_38 rfl ?_
            refine g_iconst (v := 1) C dX6_cuts_40 (by decide) ?_
            refine g_icmp_le C 47 dX6_cuts_41 (by decide) (fun hc30 => ?_) (fun hc30 => ?_)
            · refine g_aload_n (i := 0) C dX6_cuts_47 rfl rfl ?_
              refine g_getA C f_X6_13 eo dX6_cuts_48 (fun q6 _ => ?_)
              refine g_iload_n (i := 1) C dX6_cuts_51 rfl rfl ?_
              refine g_aaldO C dX6_cuts_52 (fun q7 _ eq7 => ?_)
              refine g_astore (i := 6) C [some (.ref (E.2.2.2 + o)), some (.int p0), some (.int p1), some (.int p2), some (.int p3), some (.int p4), some (.ref (E.2.2.2 + q7)), none] dX6_cuts_53 (by decide) rfl rfl ?_
              refine g_aload (i := 6) C dX6_cuts_55 rfl ?_
              refine g_iload_n (i := 2) C dX6_cuts_57 rfl rfl ?_
              refine g_cVi1 C cf_X6_63 cv_X1_faultAs eq7 (fun r h' e => c_X1_faultAs E q7 p1 eq7 h4 e) (by decide) (by decide) (Nat.le_of_ble_eq_true rfl) dX6_cuts_58 (fun r9 h8 _ => ?_)
              refine g_istore (i := 7) C [some (.ref (E.2.2.2 + o)), some (.int p0), some (.int p1), some (.int p2), some (.int p3), some (.int p4), some (.ref (E.2.2.2 + q7)), some (.int r9)] dX6_cuts_61 (by decide) rfl rfl ?_
              refine g_iload (i := 7) C dX6_cuts_63 rfl ?_
              refine g_if_ne C 84 dX6_cuts_65 (by decide) (fun hc29 => ?_) (fun hc29 => ?_)
              · refine g_aload (i := 6) C dX6_cuts_68 rfl ?_
                refine g_iload_n (i := 3) C dX6_cuts_70 rfl rfl ?_
                refine g_iconst (v := 2) C dX6_cuts_71 (by decide) ?_
                refine g_iload (i := 4) C dX6_cuts_72 rfl ?_
                refine g_imul C dX6_cuts_74 ?_
                refine g_cVi2 C cf_X6_67 cv_X1_hasCells eq7 (fun r h' e => c_X1_hasCells E q7 p2 ((2 : Int32) * p3) eq7 h8 e) (by decide) (by decide) (Nat.le_of_ble_eq_true rfl) dX6_cuts_75 (fun r27 h26 _ => ?_)
                refine g_if_ne C 84 dX6_cuts_78 (by decide) (fun hc28 => ?_) (fun hc28 => ?_)
                · refine g_iconst (v := 3) C dX6_cuts_81 (by decide) ?_
                  refine g_istore (i := 7) C [some (.ref (E.2.2.2 + o)), some (.int p0), some (.int p1), some (.int p2), some (.int p3), some (.int p4), some (.ref (E.2.2.2 + q7)), some (.int (3 : Int32))] dX6_cuts_82 (by decide) rfl rfl ?_
                  refine g_drop (i := 1) [some (.ref (E.2.2.2 + o)), none, some (.int p1), some (.int p2), some (.int p3), some (.int p4), some (.ref (E.2.2.2 + q7)), some (.int (3 : Int32))] rfl ?_
                  refine g_drop (i := 2) [some (.ref (E.2.2.2 + o)), none, none, some (.int p2), some (.int p3), some (.int p4), some (.ref (E.2.2.2 + q7)), some (.int (3 : Int32))] rfl ?_
                  exact G_F_X6_cuts_J84 C o p2 p3 p4 q7 (3 : Int32) eo eq7 h26
                · refine g_drop (i := 1) [some (.ref (E.2.2.2 + o)), none, some (.int p1), some (.int p2), some (.int p3), some (.int p4), some (.ref (E.2.2.2 + q7)), some (.int r9)] rfl ?_
                  refine g_drop (i := 2) [some (.ref (E.2.2.2 + o)), none, none, some (.int p2), some (.int p3), some (.int p4), some (.ref (E.2.2.2 + q7)), some (.int r9)] rfl ?_
                  exact G_F_X6_cuts_J84 C o p2 p3 p4 q7 r9 eo eq7 h26
              · refine g_drop (i := 1) [some (.ref (E.2.2.2 + o)), none, some (.int p1), some (.int p2), some (.int p3), some (.int p4), some (.ref (E.2.2.2 + q7)), some (.int r9)] rfl ?_
                refine g_drop (i := 2) [some (.ref (E.2.2.2 + o)), none, none, some (.int p2), some (.int p3), some (.int p4), some (.ref (E.2.2.2 + q7)), some (.int r9)] rfl ?_
                exact G_F_X6_cuts_J84 C o p2 p3 p4 q7 r9 eo eq7 h8
            · refine g_bipush (v := -2) C dX6_cuts_44 (by decide) ?_
              exact g_ireti C dX6_cuts_46
set_option maxHeartbeats 4000000 in
set_option maxRecDepth 100000 in
theorem G_F_X6_dairy_J72 {E : Ev} {X : Cx} (C : Ok E X cX6_dairy RX6 9 (some .int) 5) (q16 : Nat) (x17 : Int32) (x18 : Int32) (q19 : Nat) (x20 : Int32) (eq16 : isO shC q16 6 = true) (eq19 : isO shC q19 1 = true) (h21 : Hp) : G E shC X vi 72 [some (.ref (E.2.2.2 + q16)), none, none, some (.int x17), some (.int x18), some (.ref (E.2.2.2 + q19)), some (.int x20), none, none] [] h21 (F_X6_dairy_J72 q16 x17 x18 q19 x20 h21) := by
  unfold F_X6_dairy_J72
  refine g_iload (i := 6) C dX6_dairy_72 rfl ?_
  refine g_if_eq C 84 dX6_dairy_74 (by decide) (fun hc34 => ?_) (fun hc34 => ?_)
  · refine g_aload_n (i := 0) C dX6_dairy_84 rfl rfl ?_
    refine g_getO C f_X6_45 eq16 dX6_dairy_85 (fun q22 _ eq22 => ?_)
    refine g_aload (i := 5) C dX6_dairy_88 rfl ?_
    refine g_getA C f_X6_74 eq19 dX6_dairy_90 (fun q23 _ => ?_)
    refine g_iload_n (i := 3) C dX6_dairy_93 rfl rfl ?_
    refine g_iload (i := 4) C dX6_dairy_94 rfl ?_
    refine g_cVi3 C cf_X6_78 cv_X0_takeText eq22 (fun r h' e => c_X0_takeText E q22 q23 x17 x18 eq22 h21 e) (by decide) (by decide) (Nat.le_of_ble_eq_true rfl) dX6_dairy_96 (fun r25 h24 _ => ?_)
    refine g_istore (i := 7) C [some (.ref (E.2.2.2 + q16)), none, none, some (.int x17), some (.int x18), some (.ref (E.2.2.2 + q19)), some (.int x20), some (.int r25), none] dX6_dairy_99 (by decide) rfl rfl ?_
    refine g_iload (i := 7) C dX6_dairy_101 rfl ?_
    refine g_bipush (v := -9) C dX6_dairy_103 (by decide) ?_
    refine g_icmp_eq C 114 dX6_dairy_105 (by decide) (fun hc31 => ?_) (fun hc31 => ?_)
    · refine g_aload_n (i := 0) C dX6_dairy_114 rfl rfl ?_
      refine g_getO C f_X6_41 eq16 dX6_dairy_115 (fun q26 _ eq26 => ?_)
      refine g_astore (i := 8) C [some (.ref (E.2.2.2 + q16)), none, none, some (.int x17), some (.int x18), some (.ref (E.2.2.2 + q19)), some (.int x20), some (.int r25), some (.ref (E.2.2.2 + q26))] dX6_dairy_118 (by decide) rfl rfl ?_
      refine g_aload_n (i := 0) C dX6_dairy_120 rfl rfl ?_
      refine g_aload_n (i := 0) C dX6_dairy_121 rfl rfl ?_
      refine g_getO C f_X6_45 eq16 dX6_dairy_122 (fun q27 _ eq27 => ?_)
      refine g_putR C f_X6_41 eq16 dX6_dairy_125 (fun h28 => ?_)
      refine g_aload_n (i := 0) C dX6_dairy_128 rfl rfl ?_
      refine g_aload (i := 8) C dX6_dairy_129 rfl ?_
      refine g_putR C f_X6_45 eq16 dX6_dairy_131 (fun h29 => ?_)
      refine g_aload_n (i := 0) C dX6_dairy_134 rfl rfl ?_
      refine g_getO C f_X6_41 eq16 dX6_dairy_135 (fun q30 _ eq30 => ?_)
      refine g_getI C f_X6_82 eq30 dX6_dairy_138 ?_
      exact g_ireti C dX6_dairy_141
    · refine g_bipush (v := -100) C dX6_dairy_108 (by decide) ?_
      refine g_iload (i := 7) C dX6_dairy_110 rfl ?_
      refine g_isub C dX6_dairy_112 ?_
      exact g_ireti C dX6_dairy_113
  · refine g_aload_n (i := 0) C dX6_dairy_77 rfl rfl ?_
    refine g_iload (i := 6) C dX6_dairy_78 rfl ?_
    refine g_cVi1 C cf_X6_71 cv_X6_faulty eq16 (fun r h' e => c_X6_faulty E q16 x20 eq16 h21 e) (by decide) (by decide) (Nat.le_of_ble_eq_true rfl) dX6_dairy_80 (fun r33 h32 _ => ?_)
    exact g_ireti C dX6_dairy_83
set_option maxHeartbeats 4000000 in
set_option maxRecDepth 100000 in
theorem G_F_X6_dairy_J53 {E : Ev} {X : Cx} (C : Ok E X cX6_dairy RX6 9 (some .int) 5) (q10 : Nat) (x11 : Int32) (x12 : Int32) (q13 : Nat) (x14 : Int32) (eq10 : isO shC q10 6 = true) (eq13 : isO shC q13 1 = true) (h15 : Hp) : G E shC X vi 53 [some (.ref (E.2.2.2 + q10)), none, none, some (.int x11), some (.int x12), some (.ref (E.2.2.2 + q13)), some (.int x14), none, none] [] h15 (F_X6_dairy_J53 q10 x11 x12 q13 x14 h15) := by
  unfold F_X6_dairy_J53
  refine g_iload (i := 6) C dX6_dairy_53 rfl ?_
  refine g_if_ne C 72 dX6_dairy_55 (by decide) (fun hc38 => ?_) (fun hc38 => ?_)
  · refine g_aload (i := 5) C dX6_dairy_58 rfl ?_
    refine g_iload_n (i := 3) C dX6_dairy_60 rfl rfl ?_
    refine g_iload (i := 4) C dX6_dairy_61 rfl ?_
    refine g_cVi2 C cf_X6_67 cv_X1_hasCells eq13 (fun r h' e => c_X1_hasCells E q13 x11 x12 eq13 h15 e) (by decide) (by decide) (Nat.le_of_ble_eq_true rfl) dX6_dairy_63 (fun r36 h35 _ => ?_)
    refine g_if_ne C 72 dX6_dairy_66 (by decide) (fun hc37 => ?_) (fun hc37 => ?_)
    · refine g_iconst (v := 3) C dX6_dairy_69 (by decide) ?_
      refine g_istore (i := 6) C [some (.ref (E.2.2.2 + q10)), none, none, some (.int x11), some (.int x12), some (.ref (E.2.2.2 + q13)), some (.int (3 : Int32)), none, none] dX6_dairy_70 (by decide) rfl rfl ?_
      exact G_F_X6_dairy_J72 C q10 x11 x12 q13 (3 : Int32) eq10 eq13 h35
    · exact G_F_X6_dairy_J72 C q10 x11 x12 q13 x14 eq10 eq13 h35
  · exact G_F_X6_dairy_J72 C q10 x11 x12 q13 x14 eq10 eq13 h15
set_option maxHeartbeats 4000000 in
set_option maxRecDepth 100000 in
theorem c_X6_dairy (E : Ev) (o : Nat) (p0 : Int32) (p1 : Int32) (p2 : Int32) (p3 : Int32) (eo : isO shC o 6 = true) (h : Hp) {r : Int32} {h' : Hp} (e : F_X6_dairy o p0 p1 p2 p3 h = some (r, h')) : Ctr E shC yX6_dairy cX6_dairy 9 (some .int) 5 [.ref (E.2.2.2 + o), .int p0, .int p1, .int p2, .int p3] h (vi r) h' := by
  refine Ctr.ofG (val := vi) e (by decide) (Nat.le_of_ble_eq_true rfl) [some (.ref (E.2.2.2 + o)), some (.int p0), some (.int p1), some (.int p2), some (.int p3), none, none, none, none] rfl (fun X C => ?_)
  unfold F_X6_dairy
  refine g_aload_n (i := 0) C dX6_dairy_0 rfl rfl ?_
  refine g_iconst (v := 0) C dX6_dairy_1 (by decide) ?_
  refine g_putI C f_X6_52 eo dX6_dairy_2 (fun h1 => ?_)
  refine g_iload_n (i := 1) C dX6_dairy_5 rfl rfl ?_
  refine g_cSi1 C cf_X6_56 aw_21 (fun r h' e => c_X6_isSheet E p0 h1 e) (by decide) (by decide) (Nat.le_of_ble_eq_true rfl) dX6_dairy_6 (fun r3 h2 _ => ?_)
  refine g_if_ne C 14 dX6_dairy_9 (by decide) (fun hc42 => ?_) (fun hc42 => ?_)
  · refine g_iconst (v := -1) C dX6_dairy_12 (by decide) ?_
    exact g_ireti C dX6_dairy_13
  · refine g_iload_n (i := 2) C dX6_dairy_14 rfl rfl ?_
    refine g_cSi1 C cf_X6_60 aw_20 (fun r h' e => c_X6_isLane E p1 h2 e) (by decide) (by decide) (Nat.le_of_ble_eq_true rfl) dX6_dairy_15 (fun r5 h4 _ => ?_)
    refine g_if_ne C 24 dX6_dairy_18 (by decide) (fun hc41 => ?_) (fun hc41 => ?_)
    · refine g_bipush (v := -2) C dX6_dairy_21 (by decide) ?_
      exact g_ireti C dX6_dairy_23
    · refine g_aload_n (i := 0) C dX6_dairy_24 rfl rfl ?_
      refine g_getA C f_X6_13 eo dX6_dairy_25 (fun q6 _ => ?_)
      refine g_iload_n (i := 1) C dX6_dairy_28 rfl rfl ?_
      refine g_aaldO C dX6_dairy_29 (fun q7 _ eq7 => ?_)
      refine g_astore (i := 5) C [some (.ref (E.2.2.2 + o)), some (.int p0), some (.int p1), some (.int p2), some (.int p3), some (.ref (E.2.2.2 + q7)), none, none, none] dX6_dairy_30 (by decide) rfl rfl ?_
      refine g_aload (i := 5) C dX6_dairy_32 rfl ?_
      refine g_iload_n (i := 2) C dX6_dairy_34 rfl rfl ?_
      refine g_cVi1 C cf_X6_63 cv_X1_faultAs eq7 (fun r h' e => c_X1_faultAs E q7 p1 eq7 h4 e) (by decide) (by decide) (Nat.le_of_ble_eq_true rfl) dX6_dairy_35 (fun r9 h8 _ => ?_)
      refine g_istore (i := 6) C [some (.ref (E.2.2.2 + o)), some (.int p0), some (.int p1), some (.int p2), some (.int p3), some (.ref (E.2.2.2 + q7)), some (.int r9), none, none] dX6_dairy_38 (by decide) rfl rfl ?_
      refine g_iload (i := 6) C dX6_dairy_40 rfl ?_
      refine g_if_ne C 53 dX6_dairy_42 (by decide) (fun hc40 => ?_) (fun hc40 => ?_)
      · refine g_iload (i := 4) C dX6_dairy_45 rfl ?_
        refine g_if_ge C 53 dX6_dairy_47 (by decide) (fun hc39 => ?_) (fun hc39 => ?_)
        · refine g_drop (i := 1) [some (.ref (E.2.2.2 + o)), none, some (.int p1), some (.int p2), some (.int p3), some (.ref (E.2.2.2 + q7)), some (.int r9), none, none] rfl ?_
          refine g_drop (i := 2) [some (.ref (E.2.2.2 + o)), none, none, some (.int p2), some (.int p3), some (.ref (E.2.2.2 + q7)), some (.int r9), none, none] rfl ?_
          exact G_F_X6_dairy_J53 C o p2 p3 q7 r9 eo eq7 h8
        · refine g_iconst (v := 4) C dX6_dairy_50 (by decide) ?_
          refine g_istore (i := 6) C [some (.ref (E.2.2.2 + o)), some (.int p0), some (.int p1), some (.int p2), some (.int p3), some (.ref (E.2.2.2 + q7)), some (.int (4 : Int32)), none, none] dX6_dairy_51 (by decide) rfl rfl ?_
          refine g_drop (i := 1) [some (.ref (E.2.2.2 + o)), none, some (.int p1), some (.int p2), some (.int p3), some (.ref (E.2.2.2 + q7)), some (.int (4 : Int32)), none, none] rfl ?_
          refine g_drop (i := 2) [some (.ref (E.2.2.2 + o)), none, none, some (.int p2), some (.int p3), some (.ref (E.2.2.2 + q7)), some (.int (4 : Int32)), none, none] rfl ?_
          exact G_F_X6_dairy_J53 C o p2 p3 q7 (4 : Int32) eo eq7 h8
      · refine g_drop (i := 1) [some (.ref (E.2.2.2 + o)), none, some (.int p1), some (.int p2), some (.int p3), some (.ref (E.2.2.2 + q7)), some (.int r9), none, none] rfl ?_
        refine g_drop (i := 2) [some (.ref (E.2.2.2 + o)), none, none, some (.int p2), some (.int p3), some (.ref (E.2.2.2 + q7)), some (.int r9), none, none] rfl ?_
        exact G_F_X6_dairy_J53 C o p2 p3 q7 r9 eo eq7 h8
set_option maxHeartbeats 4000000 in
set_option maxRecDepth 100000 in
theorem c_X6_isWord (E : Ev) (p0 : Int32) (h : Hp) {r : Int32} {h' : Hp} (e : F_X6_isWord p0 h = some (r, h')) : Ctr E shC yX6_isWord cX6_isWord 1 (some .boolean) 1 [.int p0] h (vi r) h' := by
  refine Ctr.ofG (val := vi) e (by decide) (Nat.le_of_ble_eq_true rfl) [some (.int p0)] rfl (fun X C => ?_)
  unfold F_X6_isWord
  refine g_iload_n (i := 0) C dX6_isWord_0 rfl rfl ?_
  refine g_if_lt C 14 dX6_isWord_1 (by decide) (fun hc2 => ?_) (fun hc2 => ?_)
  · refine g_iconst (v := 0) C dX6_isWord_14 (by decide) ?_
    exact g_iretz C rfl dX6_isWord_15
  · refine g_iload_n (i := 0) C dX6_isWord_4 rfl rfl ?_
    refine g_bipush (v := 7) C dX6_isWord_5 (by decide) ?_
    refine g_icmp_gt C 14 dX6_isWord_7 (by decide) (fun hc1 => ?_) (fun hc1 => ?_)
    · refine g_iconst (v := 0) C dX6_isWord_14 (by decide) ?_
      exact g_iretz C rfl dX6_isWord_15
    · refine g_iconst (v := 1) C dX6_isWord_10 (by decide) ?_
      refine g_goto C 15 dX6_isWord_11 (by decide) ?_
      exact g_iretz C rfl dX6_isWord_15
set_option maxHeartbeats 4000000 in
set_option maxRecDepth 100000 in
theorem c_X6_deep (E : Ev) (o : Nat) (p0 : Int32) (p1 : Int32) (eo : isO shC o 6 = true) (h : Hp) {r : Int32} {h' : Hp} (e : F_X6_deep o p0 p1 h = some (r, h')) : Ctr E shC yX6_deep cX6_deep 3 (some .int) 3 [.ref (E.2.2.2 + o), .int p0, .int p1] h (vi r) h' := by
  refine Ctr.ofG (val := vi) e (by decide) (Nat.le_of_ble_eq_true rfl) [some (.ref (E.2.2.2 + o)), some (.int p0), some (.int p1)] rfl (fun X C => ?_)
  unfold F_X6_deep
  refine g_aload_n (i := 0) C dX6_deep_0 rfl rfl ?_
  refine g_iload_n (i := 1) C dX6_deep_1 rfl rfl ?_
  refine g_cVi1 C cf_X6_85 cv_X6_isCheese eo (fun r h' e => c_X6_isCheese E o p0 eo h e) (by decide) (by decide) (Nat.le_of_ble_eq_true rfl) dX6_deep_2 (fun r2 h1 _ => ?_)
  refine g_if_eq C 15 dX6_deep_5 (by decide) (fun hc12 => ?_) (fun hc12 => ?_)
  · refine g_iconst (v := -1) C dX6_deep_15 (by decide) ?_
    exact g_ireti C dX6_deep_16
  · refine g_iload_n (i := 2) C dX6_deep_8 rfl rfl ?_
    refine g_cSi1 C cf_X6_144 aw_23 (fun r h' e => c_X6_isWord E p1 h1 e) (by decide) (by decide) (Nat.le_of_ble_eq_true rfl) dX6_deep_9 (fun r4 h3 _ => ?_)
    refine g_if_ne C 17 dX6_deep_12 (by decide) (fun hc11 => ?_) (fun hc11 => ?_)
    · refine g_iconst (v := -1) C dX6_deep_15 (by decide) ?_
      exact g_ireti C dX6_deep_16
    · refine g_aload_n (i := 0) C dX6_deep_17 rfl rfl ?_
      refine g_getO C f_X6_41 eo dX6_deep_18 (fun q5 _ eq5 => ?_)
      refine g_aload_n (i := 0) C dX6_deep_21 rfl rfl ?_
      refine g_getO C f_X6_41 eo dX6_deep_22 (fun q6 _ eq6 => ?_)
      refine g_iload_n (i := 1) C dX6_deep_25 rfl rfl ?_
      refine g_bipush (v := -9) C dX6_deep_26 (by decide) ?_
      refine g_cVi2 C cf_X6_138 cv_X0_talksTo eq6 (fun r h' e => c_X0_talksTo E q6 p0 (-9 : Int32) eq6 h3 e) (by decide) (by decide) (Nat.le_of_ble_eq_true rfl) dX6_deep_28 (fun r8 h7 _ => ?_)
      refine g_iload_n (i := 2) C dX6_deep_31 rfl rfl ?_
      refine g_cVi2 C cf_X6_147 cv_X0_depthOf eq5 (fun r h' e => c_X0_depthOf E q5 r8 p1 eq5 h7 e) (by decide) (by decide) (Nat.le_of_ble_eq_true rfl) dX6_deep_32 (fun r10 h9 _ => ?_)
      exact g_ireti C dX6_deep_35
set_option maxHeartbeats 4000000 in
set_option maxRecDepth 100000 in
theorem c_X6_fault (E : Ev) (o : Nat) (eo : isO shC o 6 = true) (h : Hp) {r : Int32} {h' : Hp} (e : F_X6_fault o h = some (r, h')) : Ctr E shC yX6_fault cX6_fault 1 (some .int) 1 [.ref (E.2.2.2 + o)] h (vi r) h' := by
  refine Ctr.ofG (val := vi) e (by decide) (Nat.le_of_ble_eq_true rfl) [some (.ref (E.2.2.2 + o))] rfl (fun X C => ?_)
  unfold F_X6_fault
  refine g_aload_n (i := 0) C dX6_fault_0 rfl rfl ?_
  refine g_getI C f_X6_52 eo dX6_fault_1 ?_
  exact g_ireti C dX6_fault_4
set_option maxHeartbeats 4000000 in
set_option maxRecDepth 100000 in
theorem G_F_X6_fitting_L11 {E : Ev} {X : Cx} (C : Ok E X cX6_fitting RX6 8 (some .int) 4) (q2 : Nat) (q3 : Nat) (x4 : Int32) (x5 : Int32) (x6 : Int32) (eq2 : isO shC q2 6 = true) : ∀ (N : Nat) (x7 : Int32) (x8 : Int32) (h9 : Hp), G E shC X vi 11 [some (.ref (E.2.2.2 + q2)), some (.ref (E.2.2.2 + q3)), some (.int x4), none, some (.int x5), some (.int x6), some (.int x7), some (.int x8)] [] h9 (F_X6_fitting_L11 q2 q3 x4 x5 x6 N x7 x8 h9) := by
  intro N
  induction N with
  | zero =>
    intro _ _ _
    exact g_none
  | succ N ih =>
    intro x7 x8 h9
    rw [F_X6_fitting_L11]
    refine g_iload (i := 7) C dX6_fitting_11 rfl ?_
    refine g_iload (i := 4) C dX6_fitting_13 rfl ?_
    refine g_icmp_gt C 48 dX6_fitting_15 (by decide) (fun hc19 => ?_) (fun hc19 => ?_)
    · refine g_aload_n (i := 1) C dX6_fitting_48 rfl rfl ?_
      refine g_iload_n (i := 2) C dX6_fitting_49 rfl rfl ?_
      refine g_iload (i := 5) C dX6_fitting_50 rfl ?_
      refine g_iast C dX6_fitting_52 (fun h10 => ?_)
      refine g_iload (i := 6) C dX6_fitting_53 rfl ?_
      exact g_ireti C dX6_fitting_55
    · refine g_aload_n (i := 1) C dX6_fitting_18 rfl rfl ?_
      refine g_iload_n (i := 2) C dX6_fitting_19 rfl rfl ?_
      refine g_iload (i := 7) C dX6_fitting_20 rfl ?_
      refine g_iast C dX6_fitting_22 (fun h11 => ?_)
      refine g_aload_n (i := 0) C dX6_fitting_23 rfl rfl ?_
      refine g_getO C f_X6_41 eq2 dX6_fitting_24 (fun q12 _ eq12 => ?_)
      refine g_cVi0 C cf_X6_193 cv_X0_readingsAreSo eq12 (fun r h' e => c_X0_readingsAreSo E q12 eq12 h11 e) (by decide) (by decide) (Nat.le_of_ble_eq_true rfl) dX6_fitting_27 (fun r14 h13 _ => ?_)
      refine g_if_eq C 42 dX6_fitting_30 (by decide) (fun hc18 => ?_) (fun hc18 => ?_)
      · refine g_iinc (i := 7) (w := 1) C (fun yy => [some (.ref (E.2.2.2 + q2)), some (.ref (E.2.2.2 + q3)), some (.int x4), none, some (.int x5), some (.int x6), some (.int x7), some (.int yy)]) dX6_fitting_42 rfl (by decide) rfl (by decide) rfl (fun _ => rfl) (fun x15 => ?_)
        refine g_goto C 11 dX6_fitting_45 (by decide) ?_
        exact ih x7 x15 h13
      · refine g_iload (i := 6) C dX6_fitting_33 rfl ?_
        refine g_iconst (v := 1) C dX6_fitting_35 (by decide) ?_
        refine g_iload (i := 7) C dX6_fitting_36 rfl ?_
        refine g_ishl C dX6_fitting_38 ?_
        refine g_ior C dX6_fitting_39 ?_
        refine g_topi (fun x16 => ?_)
        refine g_istore (i := 6) C [some (.ref (E.2.2.2 + q2)), some (.ref (E.2.2.2 + q3)), some (.int x4), none, some (.int x5), some (.int x6), some (.int x16), some (.int x8)] dX6_fitting_40 (by decide) rfl rfl ?_
        refine g_iinc (i := 7) (w := 1) C (fun yy => [some (.ref (E.2.2.2 + q2)), some (.ref (E.2.2.2 + q3)), some (.int x4), none, some (.int x5), some (.int x6), some (.int x16), some (.int yy)]) dX6_fitting_42 rfl (by decide) rfl (by decide) rfl (fun _ => rfl) (fun x17 => ?_)
        refine g_goto C 11 dX6_fitting_45 (by decide) ?_
        exact ih x16 x17 h13
set_option maxHeartbeats 4000000 in
set_option maxRecDepth 100000 in
theorem c_X6_fitting (E : Ev) (o : Nat) (p0 : Nat) (p1 : Int32) (p2 : Int32) (p3 : Int32) (eo : isO shC o 6 = true) (h : Hp) {r : Int32} {h' : Hp} (e : F_X6_fitting o p0 p1 p2 p3 h = some (r, h')) : Ctr E shC yX6_fitting cX6_fitting 8 (some .int) 4 [.ref (E.2.2.2 + o), .ref (E.2.2.2 + p0), .int p1, .int p2, .int p3] h (vi r) h' := by
  refine Ctr.ofG (val := vi) e (by decide) (Nat.le_of_ble_eq_true rfl) [some (.ref (E.2.2.2 + o)), some (.ref (E.2.2.2 + p0)), some (.int p1), some (.int p2), some (.int p3), none, none, none] rfl (fun X C => ?_)
  unfold F_X6_fitting
  refine g_aload_n (i := 1) C dX6_fitting_0 rfl rfl ?_
  refine g_iload_n (i := 2) C dX6_fitting_1 rfl rfl ?_
  refine g_iald C dX6_fitting_2 ?_
  refine g_topi (fun x1 => ?_)
  refine g_istore (i := 5) C [some (.ref (E.2.2.2 + o)), some (.ref (E.2.2.2 + p0)), some (.int p1), some (.int p2), some (.int p3), some (.int x1), none, none] dX6_fitting_3 (by decide) rfl rfl ?_
  refine g_iconst (v := 0) C dX6_fitting_5 (by decide) ?_
  refine g_istore (i := 6) C [some (.ref (E.2.2.2 + o)), some (.ref (E.2.2.2 + p0)), some (.int p1), some (.int p2), some (.int p3), some (.int x1), some (.int (0 : Int32)), none] dX6_fitting_6 (by decide) rfl rfl ?_
  refine g_iload_n (i := 3) C dX6_fitting_8 rfl rfl ?_
  refine g_istore (i := 7) C [some (.ref (E.2.2.2 + o)), some (.ref (E.2.2.2 + p0)), some (.int p1), some (.int p2), some (.int p3), some (.int x1), some (.int (0 : Int32)), some (.int p2)] dX6_fitting_9 (by decide) rfl rfl ?_
  refine g_drop (i := 3) [some (.ref (E.2.2.2 + o)), some (.ref (E.2.2.2 + p0)), some (.int p1), none, some (.int p3), some (.int x1), some (.int (0 : Int32)), some (.int p2)] rfl ?_
  exact G_F_X6_fitting_L11 C o p0 p1 p3 x1 eo FU (0 : Int32) p2 h
set_option maxHeartbeats 4000000 in
set_option maxRecDepth 100000 in
theorem c_X6_heard (E : Ev) (o : Nat) (p0 : Int32) (eo : isO shC o 6 = true) (h : Hp) {r : Int32} {h' : Hp} (e : F_X6_heard o p0 h = some (r, h')) : Ctr E shC yX6_heard cX6_heard 2 (some .int) 3 [.ref (E.2.2.2 + o), .int p0] h (vi r) h' := by
  refine Ctr.ofG (val := vi) e (by decide) (Nat.le_of_ble_eq_true rfl) [some (.ref (E.2.2.2 + o)), some (.int p0)] rfl (fun X C => ?_)
  unfold F_X6_heard
  refine g_aload_n (i := 0) C dX6_heard_0 rfl rfl ?_
  refine g_iload_n (i := 1) C dX6_heard_1 rfl rfl ?_
  refine g_cVi1 C cf_X6_85 cv_X6_isCheese eo (fun r h' e => c_X6_isCheese E o p0 eo h e) (by decide) (by decide) (Nat.le_of_ble_eq_true rfl) dX6_heard_2 (fun r2 h1 _ => ?_)
  refine g_if_eq C 21 dX6_heard_5 (by decide) (fun hc6 => ?_) (fun hc6 => ?_)
  · refine g_iconst (v := -1) C dX6_heard_21 (by decide) ?_
    exact g_ireti C dX6_heard_22
  · refine g_aload_n (i := 0) C dX6_heard_8 rfl rfl ?_
    refine g_getO C f_X6_41 eo dX6_heard_9 (fun q3 _ eq3 => ?_)
    refine g_iload_n (i := 1) C dX6_heard_12 rfl rfl ?_
    refine g_bipush (v := -9) C dX6_heard_13 (by decide) ?_
    refine g_cVi2 C cf_X6_138 cv_X0_talksTo eq3 (fun r h' e => c_X0_talksTo E q3 p0 (-9 : Int32) eq3 h1 e) (by decide) (by decide) (Nat.le_of_ble_eq_true rfl) dX6_heard_15 (fun r5 h4 _ => ?_)
    refine g_goto C 22 dX6_heard_18 (by decide) ?_
    exact g_ireti C dX6_heard_22
set_option maxHeartbeats 4000000 in
set_option maxRecDepth 100000 in
theorem c_X6_isDay (E : Ev) (p0 : Int32) (h : Hp) {r : Int32} {h' : Hp} (e : F_X6_isDay p0 h = some (r, h')) : Ctr E shC yX6_isDay cX6_isDay 1 (some .boolean) 1 [.int p0] h (vi r) h' := by
  refine Ctr.ofG (val := vi) e (by decide) (Nat.le_of_ble_eq_true rfl) [some (.int p0)] rfl (fun X C => ?_)
  unfold F_X6_isDay
  refine g_iload_n (i := 0) C dX6_isDay_0 rfl rfl ?_
  refine g_if_lt C 14 dX6_isDay_1 (by decide) (fun hc2 => ?_) (fun hc2 => ?_)
  · refine g_iconst (v := 0) C dX6_isDay_14 (by decide) ?_
    exact g_iretz C rfl dX6_isDay_15
  · refine g_iload_n (i := 0) C dX6_isDay_4 rfl rfl ?_
    refine g_bipush (v := 8) C dX6_isDay_5 (by decide) ?_
    refine g_icmp_ge C 14 dX6_isDay_7 (by decide) (fun hc1 => ?_) (fun hc1 => ?_)
    · refine g_iconst (v := 0) C dX6_isDay_14 (by decide) ?_
      exact g_iretz C rfl dX6_isDay_15
    · refine g_iconst (v := 1) C dX6_isDay_10 (by decide) ?_
      refine g_goto C 15 dX6_isDay_11 (by decide) ?_
      exact g_iretz C rfl dX6_isDay_15
set_option maxHeartbeats 4000000 in
set_option maxRecDepth 100000 in
theorem c_X6_isTalk (E : Ev) (o : Nat) (p0 : Int32) (eo : isO shC o 6 = true) (h : Hp) {r : Int32} {h' : Hp} (e : F_X6_isTalk o p0 h = some (r, h')) : Ctr E shC yX6_isTalk cX6_isTalk 2 (some .boolean) 1 [.ref (E.2.2.2 + o), .int p0] h (vi r) h' := by
  refine Ctr.ofG (val := vi) e (by decide) (Nat.le_of_ble_eq_true rfl) [some (.ref (E.2.2.2 + o)), some (.int p0)] rfl (fun X C => ?_)
  unfold F_X6_isTalk
  refine g_iload_n (i := 1) C dX6_isTalk_0 rfl rfl ?_
  refine g_if_lt C 19 dX6_isTalk_1 (by decide) (fun hc3 => ?_) (fun hc3 => ?_)
  · refine g_iconst (v := 0) C dX6_isTalk_19 (by decide) ?_
    exact g_iretz C rfl dX6_isTalk_20
  · refine g_iload_n (i := 1) C dX6_isTalk_4 rfl rfl ?_
    refine g_aload_n (i := 0) C dX6_isTalk_5 rfl rfl ?_
    refine g_getO C f_X6_41 eo dX6_isTalk_6 (fun q1 _ eq1 => ?_)
    refine g_getI C f_X6_82 eq1 dX6_isTalk_9 ?_
    refine g_icmp_ge C 19 dX6_isTalk_12 (by decide) (fun hc2 => ?_) (fun hc2 => ?_)
    · refine g_iconst (v := 0) C dX6_isTalk_19 (by decide) ?_
      exact g_iretz C rfl dX6_isTalk_20
    · refine g_iconst (v := 1) C dX6_isTalk_15 (by decide) ?_
      refine g_goto C 20 dX6_isTalk_16 (by decide) ?_
      exact g_iretz C rfl dX6_isTalk_20
set_option maxHeartbeats 4000000 in
set_option maxRecDepth 100000 in
theorem c_X6_isWordSet (E : Ev) (p0 : Int32) (h : Hp) {r : Int32} {h' : Hp} (e : F_X6_isWordSet p0 h = some (r, h')) : Ctr E shC yX6_isWordSet cX6_isWordSet 1 (some .boolean) 1 [.int p0] h (vi r) h' := by
  refine Ctr.ofG (val := vi) e (by decide) (Nat.le_of_ble_eq_true rfl) [some (.int p0)] rfl (fun X C => ?_)
  unfold F_X6_isWordSet
  refine g_iload_n (i := 0) C dX6_isWordSet_0 rfl rfl ?_
  refine g_if_lt C 15 dX6_isWordSet_1 (by decide) (fun hc2 => ?_) (fun hc2 => ?_)
  · refine g_iconst (v := 0) C dX6_isWordSet_15 (by decide) ?_
    exact g_iretz C rfl dX6_isWordSet_16
  · refine g_iload_n (i := 0) C dX6_isWordSet_4 rfl rfl ?_
    refine g_sipush (v := 255) C dX6_isWordSet_5 (by decide) ?_
    refine g_icmp_gt C 15 dX6_isWordSet_8 (by decide) (fun hc1 => ?_) (fun hc1 => ?_)
    · refine g_iconst (v := 0) C dX6_isWordSet_15 (by decide) ?_
      exact g_iretz C rfl dX6_isWordSet_16
    · refine g_iconst (v := 1) C dX6_isWordSet_11 (by decide) ?_
      refine g_goto C 16 dX6_isWordSet_12 (by decide) ?_
      exact g_iretz C rfl dX6_isWordSet_16
set_option maxHeartbeats 4000000 in
set_option maxRecDepth 100000 in
theorem c_X6_kinds (E : Ev) (o : Nat) (p0 : Int32) (eo : isO shC o 6 = true) (h : Hp) {r : Int32} {h' : Hp} (e : F_X6_kinds o p0 h = some (r, h')) : Ctr E shC yX6_kinds cX6_kinds 2 (some .int) 5 [.ref (E.2.2.2 + o), .int p0] h (vi r) h' := by
  refine Ctr.ofG (val := vi) e (by decide) (Nat.le_of_ble_eq_true rfl) [some (.ref (E.2.2.2 + o)), some (.int p0)] rfl (fun X C => ?_)
  unfold F_X6_kinds
  refine g_aload_n (i := 0) C dX6_kinds_0 rfl rfl ?_
  refine g_iload_n (i := 1) C dX6_kinds_1 rfl rfl ?_
  refine g_cVi1 C cf_X6_85 cv_X6_isCheese eo (fun r h' e => c_X6_isCheese E o p0 eo h e) (by decide) (by decide) (Nat.le_of_ble_eq_true rfl) dX6_kinds_2 (fun r2 h1 _ => ?_)
  refine g_if_eq C 25 dX6_kinds_5 (by decide) (fun hc7 => ?_) (fun hc7 => ?_)
  · refine g_iconst (v := -1) C dX6_kinds_25 (by decide) ?_
    exact g_ireti C dX6_kinds_26
  · refine g_aload_n (i := 0) C dX6_kinds_8 rfl rfl ?_
    refine g_aload_n (i := 0) C dX6_kinds_9 rfl rfl ?_
    refine g_getO C f_X6_41 eo dX6_kinds_10 (fun q3 _ eq3 => ?_)
    refine g_getA C f_X6_88 eq3 dX6_kinds_13 (fun q4 _ => ?_)
    refine g_iload_n (i := 1) C dX6_kinds_16 rfl rfl ?_
    refine g_iconst (v := 0) C dX6_kinds_17 (by decide) ?_
    refine g_iconst (v := 2) C dX6_kinds_18 (by decide) ?_
    refine g_cVi4 C cf_X6_190 cv_X6_fitting eo (fun r h' e => c_X6_fitting E o q4 p0 (0 : Int32) (2 : Int32) eo h1 e) (by decide) (by decide) (Nat.le_of_ble_eq_true rfl) dX6_kinds_19 (fun r6 h5 _ => ?_)
    refine g_goto C 26 dX6_kinds_22 (by decide) ?_
    exact g_ireti C dX6_kinds_26
set_option maxHeartbeats 4000000 in
set_option maxRecDepth 100000 in
theorem c_X6_lay (E : Ev) (o : Nat) (p0 : Int32) (eo : isO shC o 6 = true) (h : Hp) {r : Int32} {h' : Hp} (e : F_X6_lay o p0 h = some (r, h')) : Ctr E shC yX6_lay cX6_lay 2 (some .int) 5 [.ref (E.2.2.2 + o), .int p0] h (vi r) h' := by
  refine Ctr.ofG (val := vi) e (by decide) (Nat.le_of_ble_eq_true rfl) [some (.ref (E.2.2.2 + o)), some (.int p0)] rfl (fun X C => ?_)
  unfold F_X6_lay
  refine g_aload_n (i := 0) C dX6_lay_0 rfl rfl ?_
  refine g_iload_n (i := 1) C dX6_lay_1 rfl rfl ?_
  refine g_cVi1 C cf_X6_85 cv_X6_isCheese eo (fun r h' e => c_X6_isCheese E o p0 eo h e) (by decide) (by decide) (Nat.le_of_ble_eq_true rfl) dX6_lay_2 (fun r2 h1 _ => ?_)
  refine g_if_eq C 33 dX6_lay_5 (by decide) (fun hc8 => ?_) (fun hc8 => ?_)
  · refine g_iconst (v := -1) C dX6_lay_33 (by decide) ?_
    exact g_ireti C dX6_lay_34
  · refine g_aload_n (i := 0) C dX6_lay_8 rfl rfl ?_
    refine g_aload_n (i := 0) C dX6_lay_9 rfl rfl ?_
    refine g_getO C f_X6_41 eo dX6_lay_10 (fun q3 _ eq3 => ?_)
    refine g_getA C f_X6_91 eq3 dX6_lay_13 (fun q4 _ => ?_)
    refine g_iload_n (i := 1) C dX6_lay_16 rfl rfl ?_
    refine g_iconst (v := 0) C dX6_lay_17 (by decide) ?_
    refine g_aload_n (i := 0) C dX6_lay_18 rfl rfl ?_
    refine g_getO C f_X6_41 eo dX6_lay_19 (fun q5 _ eq5 => ?_)
    refine g_getI C f_X6_112 eq5 dX6_lay_22 ?_
    refine g_iconst (v := 1) C dX6_lay_25 (by decide) ?_
    refine g_isub C dX6_lay_26 ?_
    refine g_cVi4 C cf_X6_190 cv_X6_fitting eo (fun r h' e => c_X6_fitting E o q4 p0 (0 : Int32) ((h1.1 q5 0) - (1 : Int32)) eo h1 e) (by decide) (by decide) (Nat.le_of_ble_eq_true rfl) dX6_lay_27 (fun r7 h6 _ => ?_)
    refine g_goto C 34 dX6_lay_30 (by decide) ?_
    exact g_ireti C dX6_lay_34
set_option maxHeartbeats 4000000 in
set_option maxRecDepth 100000 in
theorem c_X6_layer (E : Ev) (o : Nat) (p0 : Int32) (p1 : Int32) (eo : isO shC o 6 = true) (h : Hp) {r : Int32} {h' : Hp} (e : F_X6_layer o p0 p1 h = some (r, h')) : Ctr E shC yX6_layer cX6_layer 3 (some .int) 3 [.ref (E.2.2.2 + o), .int p0, .int p1] h (vi r) h' := by
  refine Ctr.ofG (val := vi) e (by decide) (Nat.le_of_ble_eq_true rfl) [some (.ref (E.2.2.2 + o)), some (.int p0), some (.int p1)] rfl (fun X C => ?_)
  unfold F_X6_layer
  refine g_aload_n (i := 0) C dX6_layer_0 rfl rfl ?_
  refine g_iload_n (i := 1) C dX6_layer_1 rfl rfl ?_
  refine g_cVi1 C cf_X6_85 cv_X6_isCheese eo (fun r h' e => c_X6_isCheese E o p0 eo h e) (by decide) (by decide) (Nat.le_of_ble_eq_true rfl) dX6_layer_2 (fun r2 h1 _ => ?_)
  refine g_if_eq C 12 dX6_layer_5 (by decide) (fun hc10 => ?_) (fun hc10 => ?_)
  · refine g_iconst (v := -1) C dX6_layer_12 (by decide) ?_
    exact g_ireti C dX6_layer_13
  · refine g_iload_n (i := 2) C dX6_layer_8 rfl rfl ?_
    refine g_if_ge C 14 dX6_layer_9 (by decide) (fun hc9 => ?_) (fun hc9 => ?_)
    · refine g_aload_n (i := 0) C dX6_layer_14 rfl rfl ?_
      refine g_getO C f_X6_41 eo dX6_layer_15 (fun q3 _ eq3 => ?_)
      refine g_aload_n (i := 0) C dX6_layer_18 rfl rfl ?_
      refine g_getO C f_X6_41 eo dX6_layer_19 (fun q4 _ eq4 => ?_)
      refine g_iload_n (i := 1) C dX6_layer_22 rfl rfl ?_
      refine g_bipush (v := -9) C dX6_layer_23 (by decide) ?_
      refine g_cVi2 C cf_X6_138 cv_X0_talksTo eq4 (fun r h' e => c_X0_talksTo E q4 p0 (-9 : Int32) eq4 h1 e) (by decide) (by decide) (Nat.le_of_ble_eq_true rfl) dX6_layer_25 (fun r6 h5 _ => ?_)
      refine g_iload_n (i := 2) C dX6_layer_28 rfl rfl ?_
      refine g_cVi2 C cf_X6_141 cv_X0_talkAt eq3 (fun r h' e => c_X0_talkAt E q3 r6 p1 eq3 h5 e) (by decide) (by decide) (Nat.le_of_ble_eq_true rfl) dX6_layer_29 (fun r8 h7 _ => ?_)
      exact g_ireti C dX6_layer_32
    · refine g_iconst (v := -1) C dX6_layer_12 (by decide) ?_
      exact g_ireti C dX6_layer_13
set_option maxHeartbeats 4000000 in
set_option maxRecDepth 100000 in
theorem c_X6_leave (E : Ev) (o : Nat) (p0 : Int32) (eo : isO shC o 6 = true) (h : Hp) {r : Unit} {h' : Hp} (e : F_X6_leave o p0 h = some (r, h')) : Ctr E shC yX6_leave cX6_leave 2 none 1 [.ref (E.2.2.2 + o), .int p0] h (vv r) h' := by
  refine Ctr.ofG (val := vv) e (by decide) (Nat.le_of_ble_eq_true rfl) [some (.ref (E.2.2.2 + o)), some (.int p0)] rfl (fun X C => ?_)
  unfold F_X6_leave
  refine g_aload_n (i := 0) C dX6_leave_0 rfl rfl ?_
  refine g_bipush (v := 31) C dX6_leave_1 (by decide) ?_
  refine g_aload_n (i := 0) C dX6_leave_3 rfl rfl ?_
  refine g_getI C f_X6_48 eo dX6_leave_4 ?_
  refine g_imul C dX6_leave_7 ?_
  refine g_iload_n (i := 1) C dX6_leave_8 rfl rfl ?_
  refine g_iadd C dX6_leave_9 ?_
  refine g_putI C f_X6_48 eo dX6_leave_10 (fun h1 => ?_)
  exact g_vret C dX6_leave_13
set_option maxHeartbeats 4000000 in
set_option maxRecDepth 100000 in
theorem c_X6_lose (E : Ev) (o : Nat) (p0 : Int32) (eo : isO shC o 6 = true) (h : Hp) {r : Int32} {h' : Hp} (e : F_X6_lose o p0 h = some (r, h')) : Ctr E shC yX6_lose cX6_lose 2 (some .int) 3 [.ref (E.2.2.2 + o), .int p0] h (vi r) h' := by
  refine Ctr.ofG (val := vi) e (by decide) (Nat.le_of_ble_eq_true rfl) [some (.ref (E.2.2.2 + o)), some (.int p0)] rfl (fun X C => ?_)
  unfold F_X6_lose
  refine g_iload_n (i := 1) C dX6_lose_0 rfl rfl ?_
  refine g_cSi1 C cf_X6_56 aw_21 (fun r h' e => c_X6_isSheet E p0 h e) (by decide) (by decide) (Nat.le_of_ble_eq_true rfl) dX6_lose_1 (fun r2 h1 _ => ?_)
  refine g_if_ne C 9 dX6_lose_4 (by decide) (fun hc8 => ?_) (fun hc8 => ?_)
  · refine g_iconst (v := -1) C dX6_lose_7 (by decide) ?_
    exact g_ireti C dX6_lose_8
  · refine g_aload_n (i := 0) C dX6_lose_9 rfl rfl ?_
    refine g_getA C f_X6_13 eo dX6_lose_10 (fun q3 _ => ?_)
    refine g_iload_n (i := 1) C dX6_lose_13 rfl rfl ?_
    refine g_aaldO C dX6_lose_14 (fun q4 _ eq4 => ?_)
    refine g_cVi0 C cf_X6_211 cv_X1_empty eq4 (fun r h' e => c_X1_empty E q4 eq4 h1 e) (by decide) (by decide) (Nat.le_of_ble_eq_true rfl) dX6_lose_15 (fun r6 h5 _ => ?_)
    refine g_if_eq C 25 dX6_lose_18 (by decide) (fun hc7 => ?_) (fun hc7 => ?_)
    · refine g_iconst (v := 0) C dX6_lose_25 (by decide) ?_
      exact g_ireti C dX6_lose_26
    · refine g_iconst (v := 1) C dX6_lose_21 (by decide) ?_
      refine g_goto C 26 dX6_lose_22 (by decide) ?_
      exact g_ireti C dX6_lose_26
set_option maxHeartbeats 4000000 in
set_option maxRecDepth 100000 in
theorem c_X6_louds (E : Ev) (o : Nat) (p0 : Int32) (eo : isO shC o 6 = true) (h : Hp) {r : Int32} {h' : Hp} (e : F_X6_louds o p0 h = some (r, h')) : Ctr E shC yX6_louds cX6_louds 2 (some .int) 5 [.ref (E.2.2.2 + o), .int p0] h (vi r) h' := by
  refine Ctr.ofG (val := vi) e (by decide) (Nat.le_of_ble_eq_true rfl) [some (.ref (E.2.2.2 + o)), some (.int p0)] rfl (fun X C => ?_)
  unfold F_X6_louds
  refine g_aload_n (i := 0) C dX6_louds_0 rfl rfl ?_
  refine g_iload_n (i := 1) C dX6_louds_1 rfl rfl ?_
  refine g_cVi1 C cf_X6_100 cv_X6_isTalk eo (fun r h' e => c_X6_isTalk E o p0 eo h e) (by decide) (by decide) (Nat.le_of_ble_eq_true rfl) dX6_louds_2 (fun r2 h1 _ => ?_)
  refine g_if_eq C 26 dX6_louds_5 (by decide) (fun hc7 => ?_) (fun hc7 => ?_)
  · refine g_iconst (v := -1) C dX6_louds_26 (by decide) ?_
    exact g_ireti C dX6_louds_27
  · refine g_aload_n (i := 0) C dX6_louds_8 rfl rfl ?_
    refine g_aload_n (i := 0) C dX6_louds_9 rfl rfl ?_
    refine g_getO C f_X6_41 eo dX6_louds_10 (fun q3 _ eq3 => ?_)
    refine g_getA C f_X6_106 eq3 dX6_louds_13 (fun q4 _ => ?_)
    refine g_iload_n (i := 1) C dX6_louds_16 rfl rfl ?_
    refine g_iconst (v := 1) C dX6_louds_17 (by decide) ?_
    refine g_bipush (v := 9) C dX6_louds_18 (by decide) ?_
    refine g_cVi4 C cf_X6_190 cv_X6_fitting eo (fun r h' e => c_X6_fitting E o q4 p0 (1 : Int32) (9 : Int32) eo h1 e) (by decide) (by decide) (Nat.le_of_ble_eq_true rfl) dX6_louds_20 (fun r6 h5 _ => ?_)
    refine g_goto C 27 dX6_louds_23 (by decide) ?_
    exact g_ireti C dX6_louds_27
set_option maxHeartbeats 4000000 in
set_option maxRecDepth 100000 in
theorem c_X6_many (E : Ev) (o : Nat) (p0 : Int32) (eo : isO shC o 6 = true) (h : Hp) {r : Int32} {h' : Hp} (e : F_X6_many o p0 h = some (r, h')) : Ctr E shC yX6_many cX6_many 2 (some .int) 1 [.ref (E.2.2.2 + o), .int p0] h (vi r) h' := by
  refine Ctr.ofG (val := vi) e (by decide) (Nat.le_of_ble_eq_true rfl) [some (.ref (E.2.2.2 + o)), some (.int p0)] rfl (fun X C => ?_)
  unfold F_X6_many
  refine g_iload_n (i := 1) C dX6_many_0 rfl rfl ?_
  refine g_if (fun hs1_0 => ?_) (fun hs1_0 => ?_)
  · refine g_tsIn C 36 (off := 35) dX6_many_1 (by rw [hs1_0]; decide) (by rw [hs1_0]; decide) (by rw [hs1_0]; rfl) (by decide) ?_
    refine g_aload_n (i := 0) C dX6_many_36 rfl rfl ?_
    refine g_getO C f_X6_41 eo dX6_many_37 (fun q1 _ eq1 => ?_)
    refine g_getI C f_X6_82 eq1 dX6_many_40 ?_
    exact g_ireti C dX6_many_43
  · refine g_if (fun hs1_1 => ?_) (fun hs1_1 => ?_)
    · refine g_tsIn C 44 (off := 43) dX6_many_1 (by rw [hs1_1]; decide) (by rw [hs1_1]; decide) (by rw [hs1_1]; rfl) (by decide) ?_
      refine g_aload_n (i := 0) C dX6_many_44 rfl rfl ?_
      refine g_getO C f_X6_41 eo dX6_many_45 (fun q2 _ eq2 => ?_)
      refine g_getI C f_X6_181 eq2 dX6_many_48 ?_
      exact g_ireti C dX6_many_51
    · refine g_if (fun hs1_2 => ?_) (fun hs1_2 => ?_)
      · refine g_tsIn C 52 (off := 51) dX6_many_1 (by rw [hs1_2]; decide) (by rw [hs1_2]; decide) (by rw [hs1_2]; rfl) (by decide) ?_
        refine g_aload_n (i := 0) C dX6_many_52 rfl rfl ?_
        refine g_getO C f_X6_41 eo dX6_many_53 (fun q3 _ eq3 => ?_)
        refine g_getI C f_X6_112 eq3 dX6_many_56 ?_
        exact g_ireti C dX6_many_59
      · refine g_if (fun hs1_3 => ?_) (fun hs1_3 => ?_)
        · refine g_tsIn C 60 (off := 59) dX6_many_1 (by rw [hs1_3]; decide) (by rw [hs1_3]; decide) (by rw [hs1_3]; rfl) (by decide) ?_
          refine g_aload_n (i := 0) C dX6_many_60 rfl rfl ?_
          refine g_getO C f_X6_41 eo dX6_many_61 (fun q4 _ eq4 => ?_)
          refine g_getO C f_X6_118 eq4 dX6_many_64 (fun q5 _ eq5 => ?_)
          refine g_getI C f_X6_242 eq5 dX6_many_67 ?_
          exact g_ireti C dX6_many_70
        · refine g_if (fun hs1_4 => ?_) (fun hs1_4 => ?_)
          · refine g_tsIn C 71 (off := 70) dX6_many_1 (by rw [hs1_4]; decide) (by rw [hs1_4]; decide) (by rw [hs1_4]; rfl) (by decide) ?_
            refine g_aload_n (i := 0) C dX6_many_71 rfl rfl ?_
            refine g_getO C f_X6_41 eo dX6_many_72 (fun q6 _ eq6 => ?_)
            refine g_getO C f_X6_187 eq6 dX6_many_75 (fun q7 _ eq7 => ?_)
            refine g_getI C f_X6_242 eq7 dX6_many_78 ?_
            exact g_ireti C dX6_many_81
          · refine g_tsOut C 82 dX6_many_1 (ts_out 5 (by decide) (by decide) (fun j hj => by rcases (show j = 0 ∨ j = 1 ∨ j = 2 ∨ j = 3 ∨ j = 4 by omega) with rfl | rfl | rfl | rfl | rfl <;> assumption)) (by decide) ?_
            refine g_bipush (v := -2) C dX6_many_82 (by decide) ?_
            exact g_ireti C dX6_many_84
set_option maxHeartbeats 4000000 in
set_option maxRecDepth 100000 in
theorem c_X6_plainTells (E : Ev) (o : Nat) (p0 : Int32) (eo : isO shC o 6 = true) (h : Hp) {r : Int32} {h' : Hp} (e : F_X6_plainTells o p0 h = some (r, h')) : Ctr E shC yX6_plainTells cX6_plainTells 2 (some .int) 2 [.ref (E.2.2.2 + o), .int p0] h (vi r) h' := by
  refine Ctr.ofG (val := vi) e (by decide) (Nat.le_of_ble_eq_true rfl) [some (.ref (E.2.2.2 + o)), some (.int p0)] rfl (fun X C => ?_)
  unfold F_X6_plainTells
  refine g_aload_n (i := 0) C dX6_plainTells_0 rfl rfl ?_
  refine g_iconst (v := 1) C dX6_plainTells_1 (by decide) ?_
  refine g_cVv1 C cf_X6_238 cv_X6_leave eo (fun r h' e => c_X6_leave E o (1 : Int32) eo h e) (by decide) (by decide) (Nat.le_of_ble_eq_true rfl) dX6_plainTells_2 (fun _ h1 _ => ?_)
  refine g_iload_n (i := 1) C dX6_plainTells_5 rfl rfl ?_
  exact g_ireti C dX6_plainTells_6
set_option maxHeartbeats 4000000 in
set_option maxRecDepth 100000 in
theorem c_X6_waxedTells (E : Ev) (o : Nat) (p0 : Int32) (eo : isO shC o 6 = true) (h : Hp) {r : Int32} {h' : Hp} (e : F_X6_waxedTells o p0 h = some (r, h')) : Ctr E shC yX6_waxedTells cX6_waxedTells 2 (some .int) 3 [.ref (E.2.2.2 + o), .int p0] h (vi r) h' := by
  refine Ctr.ofG (val := vi) e (by decide) (Nat.le_of_ble_eq_true rfl) [some (.ref (E.2.2.2 + o)), some (.int p0)] rfl (fun X C => ?_)
  unfold F_X6_waxedTells
  refine g_aload_n (i := 0) C dX6_waxedTells_0 rfl rfl ?_
  refine g_iconst (v := 2) C dX6_waxedTells_1 (by decide) ?_
  refine g_cVv1 C cf_X6_238 cv_X6_leave eo (fun r h' e => c_X6_leave E o (2 : Int32) eo h e) (by decide) (by decide) (Nat.le_of_ble_eq_true rfl) dX6_waxedTells_2 (fun _ h1 _ => ?_)
  refine g_aload_n (i := 0) C dX6_waxedTells_5 rfl rfl ?_
  refine g_iload_n (i := 1) C dX6_waxedTells_6 rfl rfl ?_
  refine g_cVi1 C cf_X6_235 cv_X6_plainTells eo (fun r h' e => c_X6_plainTells E o p0 eo h1 e) (by decide) (by decide) (Nat.le_of_ble_eq_true rfl) dX6_waxedTells_7 (fun r3 h2 _ => ?_)
  refine g_bipush (v := 100) C dX6_waxedTells_10 (by decide) ?_
  refine g_iadd C dX6_waxedTells_12 ?_
  exact g_ireti C dX6_waxedTells_13
set_option maxHeartbeats 4000000 in
set_option maxRecDepth 100000 in
theorem c_X6_mitedTells (E : Ev) (o : Nat) (p0 : Int32) (eo : isO shC o 6 = true) (h : Hp) {r : Int32} {h' : Hp} (e : F_X6_mitedTells o p0 h = some (r, h')) : Ctr E shC yX6_mitedTells cX6_mitedTells 3 (some .int) 4 [.ref (E.2.2.2 + o), .int p0] h (vi r) h' := by
  refine Ctr.ofG (val := vi) e (by decide) (Nat.le_of_ble_eq_true rfl) [some (.ref (E.2.2.2 + o)), some (.int p0), none] rfl (fun X C => ?_)
  unfold F_X6_mitedTells
  refine g_aload_n (i := 0) C dX6_mitedTells_0 rfl rfl ?_
  refine g_iconst (v := 3) C dX6_mitedTells_1 (by decide) ?_
  refine g_cVv1 C cf_X6_238 cv_X6_leave eo (fun r h' e => c_X6_leave E o (3 : Int32) eo h e) (by decide) (by decide) (Nat.le_of_ble_eq_true rfl) dX6_mitedTells_2 (fun _ h1 _ => ?_)
  refine g_aload_n (i := 0) C dX6_mitedTells_5 rfl rfl ?_
  refine g_iload_n (i := 1) C dX6_mitedTells_6 rfl rfl ?_
  refine g_cVi1 C cf_X6_232 cv_X6_waxedTells eo (fun r h' e => c_X6_waxedTells E o p0 eo h1 e) (by decide) (by decide) (Nat.le_of_ble_eq_true rfl) dX6_mitedTells_7 (fun r3 h2 _ => ?_)
  refine g_istore_n (i := 2) C [some (.ref (E.2.2.2 + o)), some (.int p0), some (.int r3)] dX6_mitedTells_10 rfl (by decide) rfl rfl ?_
  refine g_iload_n (i := 2) C dX6_mitedTells_11 rfl rfl ?_
  refine g_aload_n (i := 0) C dX6_mitedTells_12 rfl rfl ?_
  refine g_iload_n (i := 1) C dX6_mitedTells_13 rfl rfl ?_
  refine g_cVi1 C cf_X6_235 cv_X6_plainTells eo (fun r h' e => c_X6_plainTells E o p0 eo h2 e) (by decide) (by decide) (Nat.le_of_ble_eq_true rfl) dX6_mitedTells_14 (fun r5 h4 _ => ?_)
  refine g_iadd C dX6_mitedTells_17 ?_
  exact g_ireti C dX6_mitedTells_18
set_option maxHeartbeats 4000000 in
set_option maxRecDepth 100000 in
theorem c_X6_move (E : Ev) (o : Nat) (p0 : Int32) (p1 : Int32) (p2 : Int32) (eo : isO shC o 6 = true) (h : Hp) {r : Int32} {h' : Hp} (e : F_X6_move o p0 p1 p2 h = some (r, h')) : Ctr E shC yX6_move cX6_move 5 (some .int) 3 [.ref (E.2.2.2 + o), .int p0, .int p1, .int p2] h (vi r) h' := by
  refine Ctr.ofG (val := vi) e (by decide) (Nat.le_of_ble_eq_true rfl) [some (.ref (E.2.2.2 + o)), some (.int p0), some (.int p1), some (.int p2), none] rfl (fun X C => ?_)
  unfold F_X6_move
  refine g_aload_n (i := 0) C dX6_move_0 rfl rfl ?_
  refine g_iload_n (i := 1) C dX6_move_1 rfl rfl ?_
  refine g_cVi1 C cf_X6_85 cv_X6_isCheese eo (fun r h' e => c_X6_isCheese E o p0 eo h e) (by decide) (by decide) (Nat.le_of_ble_eq_true rfl) dX6_move_2 (fun r2 h1 _ => ?_)
  refine g_if_eq C 23 dX6_move_5 (by decide) (fun hc15 => ?_) (fun hc15 => ?_)
  · refine g_iconst (v := -1) C dX6_move_23 (by decide) ?_
    exact g_ireti C dX6_move_24
  · refine g_iload_n (i := 3) C dX6_move_8 rfl rfl ?_
    refine g_if_lt C 23 dX6_move_9 (by decide) (fun hc14 => ?_) (fun hc14 => ?_)
    · refine g_iconst (v := -1) C dX6_move_23 (by decide) ?_
      exact g_ireti C dX6_move_24
    · refine g_iload_n (i := 3) C dX6_move_12 rfl rfl ?_
      refine g_aload_n (i := 0) C dX6_move_13 rfl rfl ?_
      refine g_getO C f_X6_41 eo dX6_move_14 (fun q3 _ eq3 => ?_)
      refine g_getI C f_X6_112 eq3 dX6_move_17 ?_
      refine g_icmp_lt C 25 dX6_move_20 (by decide) (fun hc13 => ?_) (fun hc13 => ?_)
      · refine g_iload_n (i := 2) C dX6_move_25 rfl rfl ?_
        refine g_cSi1 C cf_X6_115 aw_24 (fun r h' e => c_X6_isDay E p1 h1 e) (by decide) (by decide) (Nat.le_of_ble_eq_true rfl) dX6_move_26 (fun r5 h4 _ => ?_)
        refine g_if_ne C 35 dX6_move_29 (by decide) (fun hc12 => ?_) (fun hc12 => ?_)
        · refine g_bipush (v := -2) C dX6_move_32 (by decide) ?_
          exact g_ireti C dX6_move_34
        · refine g_aload_n (i := 0) C dX6_move_35 rfl rfl ?_
          refine g_getO C f_X6_41 eo dX6_move_36 (fun q6 _ eq6 => ?_)
          refine g_getO C f_X6_118 eq6 dX6_move_39 (fun q7 _ eq7 => ?_)
          refine g_iload_n (i := 1) C dX6_move_42 rfl rfl ?_
          refine g_iload_n (i := 2) C dX6_move_43 rfl rfl ?_
          refine g_iload_n (i := 3) C dX6_move_44 rfl rfl ?_
          refine g_cVi3 C cf_X6_122 cv_X3_add eq7 (fun r h' e => c_X3_add E q7 p0 p1 p2 eq7 h4 e) (by decide) (by decide) (Nat.le_of_ble_eq_true rfl) dX6_move_45 (fun r9 h8 _ => ?_)
          refine g_istore (i := 4) C [some (.ref (E.2.2.2 + o)), some (.int p0), some (.int p1), some (.int p2), some (.int r9)] dX6_move_48 (by decide) rfl rfl ?_
          refine g_aload_n (i := 0) C dX6_move_50 rfl rfl ?_
          refine g_getO C f_X6_41 eo dX6_move_51 (fun q10 _ eq10 => ?_)
          refine g_cVv0 C cf_X6_128 cv_X0_carry eq10 (fun r h' e => c_X0_carry E q10 eq10 h8 e) (by decide) (by decide) (Nat.le_of_ble_eq_true rfl) dX6_move_54 (fun _ h11 _ => ?_)
          refine g_iload (i := 4) C dX6_move_57 rfl ?_
          exact g_ireti C dX6_move_59
      · refine g_iconst (v := -1) C dX6_move_23 (by decide) ?_
        exact g_ireti C dX6_move_24
set_option maxHeartbeats 4000000 in
set_option maxRecDepth 100000 in
theorem c_X6_odds (E : Ev) (o : Nat) (p0 : Int32) (p1 : Int32) (p2 : Int32) (eo : isO shC o 6 = true) (h : Hp) {r : Int64} {h' : Hp} (e : F_X6_odds o p0 p1 p2 h = some (r, h')) : Ctr E shC yX6_odds cX6_odds 4 (some .long) 4 [.ref (E.2.2.2 + o), .int p0, .int p1, .int p2] h (vl r) h' := by
  refine Ctr.ofG (val := vl) e (by decide) (Nat.le_of_ble_eq_true rfl) [some (.ref (E.2.2.2 + o)), some (.int p0), some (.int p1), some (.int p2)] rfl (fun X C => ?_)
  unfold F_X6_odds
  refine g_aload_n (i := 0) C dX6_odds_0 rfl rfl ?_
  refine g_iload_n (i := 1) C dX6_odds_1 rfl rfl ?_
  refine g_cVi1 C cf_X6_85 cv_X6_isCheese eo (fun r h' e => c_X6_isCheese E o p0 eo h e) (by decide) (by decide) (Nat.le_of_ble_eq_true rfl) dX6_odds_2 (fun r2 h1 _ => ?_)
  refine g_if_eq C 24 dX6_odds_5 (by decide) (fun hc14 => ?_) (fun hc14 => ?_)
  · refine g_ldc2 (v := -9223372036854775808) C dX6_odds_24 aw_19 ?_
    exact g_lret C dX6_odds_27
  · refine g_iload_n (i := 2) C dX6_odds_8 rfl rfl ?_
    refine g_cSi1 C cf_X6_144 aw_23 (fun r h' e => c_X6_isWord E p1 h1 e) (by decide) (by decide) (Nat.le_of_ble_eq_true rfl) dX6_odds_9 (fun r4 h3 _ => ?_)
    refine g_if_eq C 24 dX6_odds_12 (by decide) (fun hc13 => ?_) (fun hc13 => ?_)
    · refine g_ldc2 (v := -9223372036854775808) C dX6_odds_24 aw_19 ?_
      exact g_lret C dX6_odds_27
    · refine g_iload_n (i := 3) C dX6_odds_15 rfl rfl ?_
      refine g_if_lt C 24 dX6_odds_16 (by decide) (fun hc12 => ?_) (fun hc12 => ?_)
      · refine g_ldc2 (v := -9223372036854775808) C dX6_odds_24 aw_19 ?_
        exact g_lret C dX6_odds_27
      · refine g_iload_n (i := 3) C dX6_odds_19 rfl rfl ?_
        refine g_iconst (v := 1) C dX6_odds_20 (by decide) ?_
        refine g_icmp_le C 28 dX6_odds_21 (by decide) (fun hc11 => ?_) (fun hc11 => ?_)
        · refine g_aload_n (i := 0) C dX6_odds_28 rfl rfl ?_
          refine g_getO C f_X6_34 eo dX6_odds_29 (fun q5 _ eq5 => ?_)
          refine g_aload_n (i := 0) C dX6_odds_32 rfl rfl ?_
          refine g_getO C f_X6_41 eo dX6_odds_33 (fun q6 _ eq6 => ?_)
          refine g_iload_n (i := 1) C dX6_odds_36 rfl rfl ?_
          refine g_iload_n (i := 2) C dX6_odds_37 rfl rfl ?_
          refine g_cVv3 C cf_X6_198 cv_X5_weigh eq5 (fun r h' e => c_X5_weigh E q5 q6 p0 p1 eq5 eq6 h3 e) (by decide) (by decide) (Nat.le_of_ble_eq_true rfl) dX6_odds_38 (fun _ h7 _ => ?_)
          refine g_iload_n (i := 3) C dX6_odds_41 rfl rfl ?_
          refine g_if_ne C 56 dX6_odds_42 (by decide) (fun hc10 => ?_) (fun hc10 => ?_)
          · refine g_aload_n (i := 0) C dX6_odds_45 rfl rfl ?_
            refine g_getO C f_X6_34 eo dX6_odds_46 (fun q9 _ eq9 => ?_)
            refine g_getI C f_X6_201 eq9 dX6_odds_49 ?_
            refine g_i2l C dX6_odds_52 ?_
            refine g_goto C 64 dX6_odds_53 (by decide) ?_
            exact g_lret C dX6_odds_64
          · refine g_aload_n (i := 0) C dX6_odds_56 rfl rfl ?_
            refine g_getO C f_X6_34 eo dX6_odds_57 (fun q8 _ eq8 => ?_)
            refine g_getI C f_X6_204 eq8 dX6_odds_60 ?_
            refine g_i2l C dX6_odds_63 ?_
            exact g_lret C dX6_odds_64
        · refine g_ldc2 (v := -9223372036854775808) C dX6_odds_24 aw_19 ?_
          exact g_lret C dX6_odds_27
set_option maxHeartbeats 4000000 in
set_option maxRecDepth 100000 in
theorem c_X6_ofCheese (E : Ev) (o : Nat) (p0 : Int32) (p1 : Int32) (eo : isO shC o 6 = true) (h : Hp) {r : Int32} {h' : Hp} (e : F_X6_ofCheese o p0 p1 h = some (r, h')) : Ctr E shC yX6_ofCheese cX6_ofCheese 3 (some .int) 2 [.ref (E.2.2.2 + o), .int p0, .int p1] h (vi r) h' := by
  refine Ctr.ofG (val := vi) e (by decide) (Nat.le_of_ble_eq_true rfl) [some (.ref (E.2.2.2 + o)), some (.int p0), some (.int p1)] rfl (fun X C => ?_)
  unfold F_X6_ofCheese
  refine g_aload_n (i := 0) C dX6_ofCheese_0 rfl rfl ?_
  refine g_iload_n (i := 1) C dX6_ofCheese_1 rfl rfl ?_
  refine g_cVi1 C cf_X6_85 cv_X6_isCheese eo (fun r h' e => c_X6_isCheese E o p0 eo h e) (by decide) (by decide) (Nat.le_of_ble_eq_true rfl) dX6_ofCheese_2 (fun r2 h1 _ => ?_)
  refine g_if_ne C 10 dX6_ofCheese_5 (by decide) (fun hc11 => ?_) (fun hc11 => ?_)
  · refine g_iconst (v := -1) C dX6_ofCheese_8 (by decide) ?_
    exact g_ireti C dX6_ofCheese_9
  · refine g_iload_n (i := 2) C dX6_ofCheese_10 rfl rfl ?_
    refine g_if (fun hs11_0 => ?_) (fun hs11_0 => ?_)
    · refine g_tsIn C 40 (off := 29) dX6_ofCheese_11 (by rw [hs11_0]; decide) (by rw [hs11_0]; decide) (by rw [hs11_0]; rfl) (by decide) ?_
      refine g_aload_n (i := 0) C dX6_ofCheese_40 rfl rfl ?_
      refine g_getO C f_X6_41 eo dX6_ofCheese_41 (fun q3 _ eq3 => ?_)
      refine g_getA C f_X6_88 eq3 dX6_ofCheese_44 (fun q4 _ => ?_)
      refine g_iload_n (i := 1) C dX6_ofCheese_47 rfl rfl ?_
      refine g_iald C dX6_ofCheese_48 ?_
      exact g_ireti C dX6_ofCheese_49
    · refine g_if (fun hs11_1 => ?_) (fun hs11_1 => ?_)
      · refine g_tsIn C 50 (off := 39) dX6_ofCheese_11 (by rw [hs11_1]; decide) (by rw [hs11_1]; decide) (by rw [hs11_1]; rfl) (by decide) ?_
        refine g_aload_n (i := 0) C dX6_ofCheese_50 rfl rfl ?_
        refine g_getO C f_X6_41 eo dX6_ofCheese_51 (fun q5 _ eq5 => ?_)
        refine g_getA C f_X6_91 eq5 dX6_ofCheese_54 (fun q6 _ => ?_)
        refine g_iload_n (i := 1) C dX6_ofCheese_57 rfl rfl ?_
        refine g_iald C dX6_ofCheese_58 ?_
        exact g_ireti C dX6_ofCheese_59
      · refine g_if (fun hs11_2 => ?_) (fun hs11_2 => ?_)
        · refine g_tsIn C 60 (off := 49) dX6_ofCheese_11 (by rw [hs11_2]; decide) (by rw [hs11_2]; decide) (by rw [hs11_2]; rfl) (by decide) ?_
          refine g_aload_n (i := 0) C dX6_ofCheese_60 rfl rfl ?_
          refine g_getO C f_X6_41 eo dX6_ofCheese_61 (fun q7 _ eq7 => ?_)
          refine g_getA C f_X6_94 eq7 dX6_ofCheese_64 (fun q8 _ => ?_)
          refine g_iload_n (i := 1) C dX6_ofCheese_67 rfl rfl ?_
          refine g_iald C dX6_ofCheese_68 ?_
          exact g_ireti C dX6_ofCheese_69
        · refine g_if (fun hs11_3 => ?_) (fun hs11_3 => ?_)
          · refine g_tsIn C 70 (off := 59) dX6_ofCheese_11 (by rw [hs11_3]; decide) (by rw [hs11_3]; decide) (by rw [hs11_3]; rfl) (by decide) ?_
            refine g_aload_n (i := 0) C dX6_ofCheese_70 rfl rfl ?_
            refine g_getO C f_X6_41 eo dX6_ofCheese_71 (fun q9 _ eq9 => ?_)
            refine g_getA C f_X6_97 eq9 dX6_ofCheese_74 (fun q10 _ => ?_)
            refine g_iload_n (i := 1) C dX6_ofCheese_77 rfl rfl ?_
            refine g_iald C dX6_ofCheese_78 ?_
            exact g_ireti C dX6_ofCheese_79
          · refine g_tsOut C 80 dX6_ofCheese_11 (ts_out 4 (by decide) (by decide) (fun j hj => by rcases (show j = 0 ∨ j = 1 ∨ j = 2 ∨ j = 3 by omega) with rfl | rfl | rfl | rfl <;> assumption)) (by decide) ?_
            refine g_bipush (v := -2) C dX6_ofCheese_80 (by decide) ?_
            exact g_ireti C dX6_ofCheese_82
set_option maxHeartbeats 4000000 in
set_option maxRecDepth 100000 in
theorem c_X6_ofTalk (E : Ev) (o : Nat) (p0 : Int32) (p1 : Int32) (eo : isO shC o 6 = true) (h : Hp) {r : Int32} {h' : Hp} (e : F_X6_ofTalk o p0 p1 h = some (r, h')) : Ctr E shC yX6_ofTalk cX6_ofTalk 3 (some .int) 2 [.ref (E.2.2.2 + o), .int p0, .int p1] h (vi r) h' := by
  refine Ctr.ofG (val := vi) e (by decide) (Nat.le_of_ble_eq_true rfl) [some (.ref (E.2.2.2 + o)), some (.int p0), some (.int p1)] rfl (fun X C => ?_)
  unfold F_X6_ofTalk
  refine g_aload_n (i := 0) C dX6_ofTalk_0 rfl rfl ?_
  refine g_iload_n (i := 1) C dX6_ofTalk_1 rfl rfl ?_
  refine g_cVi1 C cf_X6_100 cv_X6_isTalk eo (fun r h' e => c_X6_isTalk E o p0 eo h e) (by decide) (by decide) (Nat.le_of_ble_eq_true rfl) dX6_ofTalk_2 (fun r2 h1 _ => ?_)
  refine g_if_ne C 10 dX6_ofTalk_5 (by decide) (fun hc9 => ?_) (fun hc9 => ?_)
  · refine g_iconst (v := -1) C dX6_ofTalk_8 (by decide) ?_
    exact g_ireti C dX6_ofTalk_9
  · refine g_iload_n (i := 2) C dX6_ofTalk_10 rfl rfl ?_
    refine g_if (fun hs11_0 => ?_) (fun hs11_0 => ?_)
    · refine g_tsIn C 36 (off := 25) dX6_ofTalk_11 (by rw [hs11_0]; decide) (by rw [hs11_0]; decide) (by rw [hs11_0]; rfl) (by decide) ?_
      refine g_aload_n (i := 0) C dX6_ofTalk_36 rfl rfl ?_
      refine g_getO C f_X6_41 eo dX6_ofTalk_37 (fun q3 _ eq3 => ?_)
      refine g_getA C f_X6_103 eq3 dX6_ofTalk_40 (fun q4 _ => ?_)
      refine g_iload_n (i := 1) C dX6_ofTalk_43 rfl rfl ?_
      refine g_iald C dX6_ofTalk_44 ?_
      exact g_ireti C dX6_ofTalk_45
    · refine g_if (fun hs11_1 => ?_) (fun hs11_1 => ?_)
      · refine g_tsIn C 46 (off := 35) dX6_ofTalk_11 (by rw [hs11_1]; decide) (by rw [hs11_1]; decide) (by rw [hs11_1]; rfl) (by decide) ?_
        refine g_aload_n (i := 0) C dX6_ofTalk_46 rfl rfl ?_
        refine g_getO C f_X6_41 eo dX6_ofTalk_47 (fun q5 _ eq5 => ?_)
        refine g_getA C f_X6_106 eq5 dX6_ofTalk_50 (fun q6 _ => ?_)
        refine g_iload_n (i := 1) C dX6_ofTalk_53 rfl rfl ?_
        refine g_iald C dX6_ofTalk_54 ?_
        exact g_ireti C dX6_ofTalk_55
      · refine g_if (fun hs11_2 => ?_) (fun hs11_2 => ?_)
        · refine g_tsIn C 56 (off := 45) dX6_ofTalk_11 (by rw [hs11_2]; decide) (by rw [hs11_2]; decide) (by rw [hs11_2]; rfl) (by decide) ?_
          refine g_aload_n (i := 0) C dX6_ofTalk_56 rfl rfl ?_
          refine g_getO C f_X6_41 eo dX6_ofTalk_57 (fun q7 _ eq7 => ?_)
          refine g_getA C f_X6_109 eq7 dX6_ofTalk_60 (fun q8 _ => ?_)
          refine g_iload_n (i := 1) C dX6_ofTalk_63 rfl rfl ?_
          refine g_iald C dX6_ofTalk_64 ?_
          exact g_ireti C dX6_ofTalk_65
        · refine g_tsOut C 66 dX6_ofTalk_11 (ts_out 3 (by decide) (by decide) (fun j hj => by rcases (show j = 0 ∨ j = 1 ∨ j = 2 by omega) with rfl | rfl | rfl <;> assumption)) (by decide) ?_
          refine g_bipush (v := -2) C dX6_ofTalk_66 (by decide) ?_
          exact g_ireti C dX6_ofTalk_68
set_option maxHeartbeats 4000000 in
set_option maxRecDepth 100000 in
theorem c_X6_put (E : Ev) (o : Nat) (p0 : Int32) (p1 : Int32) (p2 : Int32) (eo : isO shC o 6 = true) (h : Hp) {r : Int32} {h' : Hp} (e : F_X6_put o p0 p1 p2 h = some (r, h')) : Ctr E shC yX6_put cX6_put 5 (some .int) 2 [.ref (E.2.2.2 + o), .int p0, .int p1, .int p2] h (vi r) h' := by
  refine Ctr.ofG (val := vi) e (by decide) (Nat.le_of_ble_eq_true rfl) [some (.ref (E.2.2.2 + o)), some (.int p0), some (.int p1), some (.int p2), none] rfl (fun X C => ?_)
  unfold F_X6_put
  refine g_aload_n (i := 0) C dX6_put_0 rfl rfl ?_
  refine g_iconst (v := 0) C dX6_put_1 (by decide) ?_
  refine g_putI C f_X6_52 eo dX6_put_2 (fun h1 => ?_)
  refine g_iload_n (i := 1) C dX6_put_5 rfl rfl ?_
  refine g_cSi1 C cf_X6_56 aw_21 (fun r h' e => c_X6_isSheet E p0 h1 e) (by decide) (by decide) (Nat.le_of_ble_eq_true rfl) dX6_put_6 (fun r3 h2 _ => ?_)
  refine g_if_ne C 14 dX6_put_9 (by decide) (fun hc20 => ?_) (fun hc20 => ?_)
  · refine g_iconst (v := -1) C dX6_put_12 (by decide) ?_
    exact g_ireti C dX6_put_13
  · refine g_aload_n (i := 0) C dX6_put_14 rfl rfl ?_
    refine g_getA C f_X6_13 eo dX6_put_15 (fun q4 _ => ?_)
    refine g_iload_n (i := 1) C dX6_put_18 rfl rfl ?_
    refine g_aaldO C dX6_put_19 (fun q5 _ eq5 => ?_)
    refine g_astore (i := 4) C [some (.ref (E.2.2.2 + o)), some (.int p0), some (.int p1), some (.int p2), some (.ref (E.2.2.2 + q5))] dX6_put_20 (by decide) rfl rfl ?_
    refine g_aload (i := 4) C dX6_put_22 rfl ?_
    refine g_cVi0 C cf_X6_214 cv_X1_hasNothing eq5 (fun r h' e => c_X1_hasNothing E q5 eq5 h2 e) (by decide) (by decide) (Nat.le_of_ble_eq_true rfl) dX6_put_24 (fun r7 h6 _ => ?_)
    refine g_if_eq C 36 dX6_put_27 (by decide) (fun hc19 => ?_) (fun hc19 => ?_)
    · refine g_aload (i := 4) C dX6_put_36 rfl ?_
      refine g_iload_n (i := 2) C dX6_put_38 rfl rfl ?_
      refine g_iconst (v := 1) C dX6_put_39 (by decide) ?_
      refine g_cVi2 C cf_X6_67 cv_X1_hasCells eq5 (fun r h' e => c_X1_hasCells E q5 p1 (1 : Int32) eq5 h6 e) (by decide) (by decide) (Nat.le_of_ble_eq_true rfl) dX6_put_40 (fun r9 h8 _ => ?_)
      refine g_if_ne C 52 dX6_put_43 (by decide) (fun hc16 => ?_) (fun hc16 => ?_)
      · refine g_aload_n (i := 0) C dX6_put_46 rfl rfl ?_
        refine g_iconst (v := 3) C dX6_put_47 (by decide) ?_
        refine g_cVi1 C cf_X6_71 cv_X6_faulty eo (fun r h' e => c_X6_faulty E o (3 : Int32) eo h8 e) (by decide) (by decide) (Nat.le_of_ble_eq_true rfl) dX6_put_48 (fun r15 h14 _ => ?_)
        exact g_ireti C dX6_put_51
      · refine g_aload (i := 4) C dX6_put_52 rfl ?_
        refine g_getA C f_X6_74 eq5 dX6_put_54 (fun q10 _ => ?_)
        refine g_iload_n (i := 2) C dX6_put_57 rfl rfl ?_
        refine g_aload (i := 4) C dX6_put_58 rfl ?_
        refine g_iload_n (i := 3) C dX6_put_60 rfl rfl ?_
        refine g_cVi1 C cf_X6_217 cv_X1_cutToLane eq5 (fun r h' e => c_X1_cutToLane E q5 p2 eq5 h8 e) (by decide) (by decide) (Nat.le_of_ble_eq_true rfl) dX6_put_61 (fun r12 h11 _ => ?_)
        refine g_iast C dX6_put_64 (fun h13 => ?_)
        refine g_iconst (v := 1) C dX6_put_65 (by decide) ?_
        exact g_ireti C dX6_put_66
    · refine g_aload_n (i := 0) C dX6_put_30 rfl rfl ?_
      refine g_iconst (v := 1) C dX6_put_31 (by decide) ?_
      refine g_cVi1 C cf_X6_71 cv_X6_faulty eo (fun r h' e => c_X6_faulty E o (1 : Int32) eo h6 e) (by decide) (by decide) (Nat.le_of_ble_eq_true rfl) dX6_put_32 (fun r18 h17 _ => ?_)
      exact g_ireti C dX6_put_35
set_option maxHeartbeats 4000000 in
set_option maxRecDepth 100000 in
theorem G_F_X6_reading_J23 {E : Ev} {X : Cx} (C : Ok E X cX6_reading RX6 4 (some .int) 2) (q5 : Nat) (x6 : Int32) (x7 : Int32) (x8 : Int32) (eq5 : isO shC q5 6 = true) (h9 : Hp) : G E shC X vi 23 [some (.ref (E.2.2.2 + q5)), some (.int x6), some (.int x7), some (.int x8)] [] h9 (F_X6_reading_J23 q5 x6 x7 x8 h9) := by
  unfold F_X6_reading_J23
  refine g_iload_n (i := 2) C dX6_reading_23 rfl rfl ?_
  refine g_if_lt C 33 dX6_reading_24 (by decide) (fun hc15 => ?_) (fun hc15 => ?_)
  · refine g_bipush (v := -2) C dX6_reading_33 (by decide) ?_
    exact g_ireti C dX6_reading_35
  · refine g_iload_n (i := 2) C dX6_reading_27 rfl rfl ?_
    refine g_bipush (v := 8) C dX6_reading_28 (by decide) ?_
    refine g_icmp_lt C 36 dX6_reading_30 (by decide) (fun hc14 => ?_) (fun hc14 => ?_)
    · refine g_aload_n (i := 0) C dX6_reading_36 rfl rfl ?_
      refine g_getO C f_X6_41 eq5 dX6_reading_37 (fun q10 _ eq10 => ?_)
      refine g_getO C f_X6_187 eq10 dX6_reading_40 (fun q11 _ eq11 => ?_)
      refine g_iload_n (i := 1) C dX6_reading_43 rfl rfl ?_
      refine g_iload_n (i := 2) C dX6_reading_44 rfl rfl ?_
      refine g_iload_n (i := 3) C dX6_reading_45 rfl rfl ?_
      refine g_cVi3 C cf_X6_122 cv_X3_add eq11 (fun r h' e => c_X3_add E q11 x6 x7 x8 eq11 h9 e) (by decide) (by decide) (Nat.le_of_ble_eq_true rfl) dX6_reading_46 (fun r13 h12 _ => ?_)
      exact g_ireti C dX6_reading_49
    · refine g_bipush (v := -2) C dX6_reading_33 (by decide) ?_
      exact g_ireti C dX6_reading_35
set_option maxHeartbeats 4000000 in
set_option maxRecDepth 100000 in
theorem c_X6_reading (E : Ev) (o : Nat) (p0 : Int32) (p1 : Int32) (p2 : Int32) (eo : isO shC o 6 = true) (h : Hp) {r : Int32} {h' : Hp} (e : F_X6_reading o p0 p1 p2 h = some (r, h')) : Ctr E shC yX6_reading cX6_reading 4 (some .int) 2 [.ref (E.2.2.2 + o), .int p0, .int p1, .int p2] h (vi r) h' := by
  refine Ctr.ofG (val := vi) e (by decide) (Nat.le_of_ble_eq_true rfl) [some (.ref (E.2.2.2 + o)), some (.int p0), some (.int p1), some (.int p2)] rfl (fun X C => ?_)
  unfold F_X6_reading
  refine g_aload_n (i := 0) C dX6_reading_0 rfl rfl ?_
  refine g_iload_n (i := 1) C dX6_reading_1 rfl rfl ?_
  refine g_cVi1 C cf_X6_85 cv_X6_isCheese eo (fun r h' e => c_X6_isCheese E o p0 eo h e) (by decide) (by decide) (Nat.le_of_ble_eq_true rfl) dX6_reading_2 (fun r2 h1 _ => ?_)
  refine g_if_eq C 21 dX6_reading_5 (by decide) (fun hc18 => ?_) (fun hc18 => ?_)
  · refine g_iconst (v := -1) C dX6_reading_21 (by decide) ?_
    exact g_ireti C dX6_reading_22
  · refine g_iload_n (i := 3) C dX6_reading_8 rfl rfl ?_
    refine g_cSi1 C cf_X6_144 aw_23 (fun r h' e => c_X6_isWord E p2 h1 e) (by decide) (by decide) (Nat.le_of_ble_eq_true rfl) dX6_reading_9 (fun r4 h3 _ => ?_)
    refine g_if_ne C 23 dX6_reading_12 (by decide) (fun hc17 => ?_) (fun hc17 => ?_)
    · refine g_iload_n (i := 3) C dX6_reading_15 rfl rfl ?_
      refine g_bipush (v := -9) C dX6_reading_16 (by decide) ?_
      refine g_icmp_eq C 23 dX6_reading_18 (by decide) (fun hc16 => ?_) (fun hc16 => ?_)
      · exact G_F_X6_reading_J23 C o p0 p1 p2 eo h3
      · refine g_iconst (v := -1) C dX6_reading_21 (by decide) ?_
        exact g_ireti C dX6_reading_22
    · exact G_F_X6_reading_J23 C o p0 p1 p2 eo h3
set_option maxHeartbeats 4000000 in
set_option maxRecDepth 100000 in
theorem c_X6_sheet (E : Ev) (o : Nat) (p0 : Int32) (p1 : Int32) (p2 : Int32) (eo : isO shC o 6 = true) (h : Hp) {r : Int32} {h' : Hp} (e : F_X6_sheet o p0 p1 p2 h = some (r, h')) : Ctr E shC yX6_sheet cX6_sheet 4 (some .int) 3 [.ref (E.2.2.2 + o), .int p0, .int p1, .int p2] h (vi r) h' := by
  refine Ctr.ofG (val := vi) e (by decide) (Nat.le_of_ble_eq_true rfl) [some (.ref (E.2.2.2 + o)), some (.int p0), some (.int p1), some (.int p2)] rfl (fun X C => ?_)
  unfold F_X6_sheet
  refine g_aload_n (i := 0) C dX6_sheet_0 rfl rfl ?_
  refine g_iconst (v := 0) C dX6_sheet_1 (by decide) ?_
  refine g_putI C f_X6_52 eo dX6_sheet_2 (fun h1 => ?_)
  refine g_iload_n (i := 1) C dX6_sheet_5 rfl rfl ?_
  refine g_cSi1 C cf_X6_56 aw_21 (fun r h' e => c_X6_isSheet E p0 h1 e) (by decide) (by decide) (Nat.le_of_ble_eq_true rfl) dX6_sheet_6 (fun r3 h2 _ => ?_)
  refine g_if_ne C 14 dX6_sheet_9 (by decide) (fun hc14 => ?_) (fun hc14 => ?_)
  · refine g_iconst (v := -1) C dX6_sheet_12 (by decide) ?_
    exact g_ireti C dX6_sheet_13
  · refine g_iload_n (i := 2) C dX6_sheet_14 rfl rfl ?_
    refine g_cSi1 C cf_X6_60 aw_20 (fun r h' e => c_X6_isLane E p1 h2 e) (by decide) (by decide) (Nat.le_of_ble_eq_true rfl) dX6_sheet_15 (fun r5 h4 _ => ?_)
    refine g_if_eq C 27 dX6_sheet_18 (by decide) (fun hc13 => ?_) (fun hc13 => ?_)
    · refine g_bipush (v := -2) C dX6_sheet_27 (by decide) ?_
      exact g_ireti C dX6_sheet_29
    · refine g_iload_n (i := 3) C dX6_sheet_21 rfl rfl ?_
      refine g_bipush (v := 60) C dX6_sheet_22 (by decide) ?_
      refine g_icmp_le C 30 dX6_sheet_24 (by decide) (fun hc12 => ?_) (fun hc12 => ?_)
      · refine g_iload_n (i := 3) C dX6_sheet_30 rfl rfl ?_
        refine g_if_ge C 40 dX6_sheet_31 (by decide) (fun hc11 => ?_) (fun hc11 => ?_)
        · refine g_aload_n (i := 0) C dX6_sheet_40 rfl rfl ?_
          refine g_getA C f_X6_13 eo dX6_sheet_41 (fun q6 _ => ?_)
          refine g_iload_n (i := 1) C dX6_sheet_44 rfl rfl ?_
          refine g_aaldO C dX6_sheet_45 (fun q7 _ eq7 => ?_)
          refine g_iload_n (i := 2) C dX6_sheet_46 rfl rfl ?_
          refine g_iload_n (i := 3) C dX6_sheet_47 rfl rfl ?_
          refine g_cVv2 C cf_X6_207 cv_X1_begin eq7 (fun r h' e => c_X1_begin E q7 p1 p2 eq7 h4 e) (by decide) (by decide) (Nat.le_of_ble_eq_true rfl) dX6_sheet_48 (fun _ h8 _ => ?_)
          refine g_iconst (v := 1) C dX6_sheet_51 (by decide) ?_
          exact g_ireti C dX6_sheet_52
        · refine g_aload_n (i := 0) C dX6_sheet_34 rfl rfl ?_
          refine g_iconst (v := 4) C dX6_sheet_35 (by decide) ?_
          refine g_cVi1 C cf_X6_71 cv_X6_faulty eo (fun r h' e => c_X6_faulty E o (4 : Int32) eo h4 e) (by decide) (by decide) (Nat.le_of_ble_eq_true rfl) dX6_sheet_36 (fun r10 h9 _ => ?_)
          exact g_ireti C dX6_sheet_39
      · refine g_bipush (v := -2) C dX6_sheet_27 (by decide) ?_
        exact g_ireti C dX6_sheet_29
set_option maxHeartbeats 4000000 in
set_option maxRecDepth 100000 in
theorem c_X6_shelve (E : Ev) (o : Nat) (p0 : Int32) (eo : isO shC o 6 = true) (h : Hp) {r : Int32} {h' : Hp} (e : F_X6_shelve o p0 h = some (r, h')) : Ctr E shC yX6_shelve cX6_shelve 2 (some .int) 12 [.ref (E.2.2.2 + o), .int p0] h (vi r) h' := by
  refine Ctr.ofG (val := vi) e (by decide) (Nat.le_of_ble_eq_true rfl) [some (.ref (E.2.2.2 + o)), some (.int p0)] rfl (fun X C => ?_)
  unfold F_X6_shelve
  refine g_iload_n (i := 1) C dX6_shelve_0 rfl rfl ?_
  refine g_iconst (v := -1) C dX6_shelve_1 (by decide) ?_
  refine g_icmp_ge C 7 dX6_shelve_2 (by decide) (fun hc14 => ?_) (fun hc14 => ?_)
  · refine g_aload_n (i := 0) C dX6_shelve_7 rfl rfl ?_
    refine g_cVi0 C cf_X6_150 cv_X6_hasNoDairy eo (fun r h' e => c_X6_hasNoDairy E o eo h e) (by decide) (by decide) (Nat.le_of_ble_eq_true rfl) dX6_shelve_8 (fun r2 h1 _ => ?_)
    refine g_if_eq C 17 dX6_shelve_11 (by decide) (fun hc13 => ?_) (fun hc13 => ?_)
    · refine g_aload_n (i := 0) C dX6_shelve_17 rfl rfl ?_
      refine g_getO C f_X6_27 eo dX6_shelve_18 (fun q3 _ eq3 => ?_)
      refine g_aload_n (i := 0) C dX6_shelve_21 rfl rfl ?_
      refine g_getO C f_X6_41 eo dX6_shelve_22 (fun q4 _ eq4 => ?_)
      refine g_cVv1 C cf_X6_174 cv_X2_find eq3 (fun r h' e => c_X2_find E q3 q4 eq3 eq4 h1 e) (by decide) (by decide) (Nat.le_of_ble_eq_true rfl) dX6_shelve_25 (fun _ h5 _ => ?_)
      refine g_iload_n (i := 1) C dX6_shelve_28 rfl rfl ?_
      refine g_iconst (v := -1) C dX6_shelve_29 (by decide) ?_
      refine g_icmp_ne C 41 dX6_shelve_30 (by decide) (fun hc12 => ?_) (fun hc12 => ?_)
      · refine g_aload_n (i := 0) C dX6_shelve_33 rfl rfl ?_
        refine g_getO C f_X6_27 eo dX6_shelve_34 (fun q11 _ eq11 => ?_)
        refine g_getI C f_X6_177 eq11 dX6_shelve_37 ?_
        exact g_ireti C dX6_shelve_40
      · refine g_aload_n (i := 0) C dX6_shelve_41 rfl rfl ?_
        refine g_iload_n (i := 1) C dX6_shelve_42 rfl rfl ?_
        refine g_cVi1 C cf_X6_85 cv_X6_isCheese eo (fun r h' e => c_X6_isCheese E o p0 eo h5 e) (by decide) (by decide) (Nat.le_of_ble_eq_true rfl) dX6_shelve_43 (fun r7 h6 _ => ?_)
        refine g_if_eq C 61 dX6_shelve_46 (by decide) (fun hc10 => ?_) (fun hc10 => ?_)
        · refine g_bipush (v := -9) C dX6_shelve_61 (by decide) ?_
          exact g_ireti C dX6_shelve_63
        · refine g_aload_n (i := 0) C dX6_shelve_49 rfl rfl ?_
          refine g_getO C f_X6_27 eo dX6_shelve_50 (fun q8 _ eq8 => ?_)
          refine g_getA C f_X6_180 eq8 dX6_shelve_53 (fun q9 _ => ?_)
          refine g_iload_n (i := 1) C dX6_shelve_56 rfl rfl ?_
          refine g_iald C dX6_shelve_57 ?_
          refine g_goto C 63 dX6_shelve_58 (by decide) ?_
          exact g_ireti C dX6_shelve_63
    · refine g_bipush (v := -3) C dX6_shelve_14 (by decide) ?_
      exact g_ireti C dX6_shelve_16
  · refine g_iconst (v := -1) C dX6_shelve_5 (by decide) ?_
    exact g_ireti C dX6_shelve_6
set_option maxHeartbeats 4000000 in
set_option maxRecDepth 100000 in
theorem c_X6_spare (E : Ev) (o : Nat) (p0 : Int32) (p1 : Int32) (p2 : Int32) (eo : isO shC o 6 = true) (h : Hp) {r : Int32} {h' : Hp} (e : F_X6_spare o p0 p1 p2 h = some (r, h')) : Ctr E shC yX6_spare cX6_spare 4 (some .int) 11 [.ref (E.2.2.2 + o), .int p0, .int p1, .int p2] h (vi r) h' := by
  refine Ctr.ofG (val := vi) e (by decide) (Nat.le_of_ble_eq_true rfl) [some (.ref (E.2.2.2 + o)), some (.int p0), some (.int p1), some (.int p2)] rfl (fun X C => ?_)
  unfold F_X6_spare
  refine g_iload_n (i := 3) C dX6_spare_0 rfl rfl ?_
  refine g_iconst (v := -1) C dX6_spare_1 (by decide) ?_
  refine g_icmp_ge C 7 dX6_spare_2 (by decide) (fun hc22 => ?_) (fun hc22 => ?_)
  · refine g_iload_n (i := 1) C dX6_spare_7 rfl rfl ?_
    refine g_cSi1 C cf_X6_161 aw_25 (fun r h' e => c_X6_isWordSet E p0 h e) (by decide) (by decide) (Nat.le_of_ble_eq_true rfl) dX6_spare_8 (fun r2 h1 _ => ?_)
    refine g_if_eq C 21 dX6_spare_11 (by decide) (fun hc21 => ?_) (fun hc21 => ?_)
    · refine g_bipush (v := -2) C dX6_spare_21 (by decide) ?_
      exact g_ireti C dX6_spare_23
    · refine g_iload_n (i := 2) C dX6_spare_14 rfl rfl ?_
      refine g_cSi1 C cf_X6_161 aw_25 (fun r h' e => c_X6_isWordSet E p1 h1 e) (by decide) (by decide) (Nat.le_of_ble_eq_true rfl) dX6_spare_15 (fun r4 h3 _ => ?_)
      refine g_if_ne C 24 dX6_spare_18 (by decide) (fun hc20 => ?_) (fun hc20 => ?_)
      · refine g_bipush (v := -2) C dX6_spare_21 (by decide) ?_
        exact g_ireti C dX6_spare_23
      · refine g_aload_n (i := 0) C dX6_spare_24 rfl rfl ?_
        refine g_cVi0 C cf_X6_150 cv_X6_hasNoDairy eo (fun r h' e => c_X6_hasNoDairy E o eo h3 e) (by decide) (by decide) (Nat.le_of_ble_eq_true rfl) dX6_spare_25 (fun r6 h5 _ => ?_)
        refine g_if_eq C 34 dX6_spare_28 (by decide) (fun hc19 => ?_) (fun hc19 => ?_)
        · refine g_aload_n (i := 0) C dX6_spare_34 rfl rfl ?_
          refine g_getO C f_X6_20 eo dX6_spare_35 (fun q7 _ eq7 => ?_)
          refine g_aload_n (i := 0) C dX6_spare_38 rfl rfl ?_
          refine g_getO C f_X6_41 eo dX6_spare_39 (fun q8 _ eq8 => ?_)
          refine g_iload_n (i := 1) C dX6_spare_42 rfl rfl ?_
          refine g_iload_n (i := 2) C dX6_spare_43 rfl rfl ?_
          refine g_cVv3 C cf_X6_164 cv_X4_find eq7 (fun r h' e => c_X4_find E q7 q8 p0 p1 eq7 eq8 h5 e) (by decide) (by decide) (Nat.le_of_ble_eq_true rfl) dX6_spare_44 (fun _ h9 _ => ?_)
          refine g_iload_n (i := 3) C dX6_spare_47 rfl rfl ?_
          refine g_iconst (v := -1) C dX6_spare_48 (by decide) ?_
          refine g_icmp_ne C 60 dX6_spare_49 (by decide) (fun hc18 => ?_) (fun hc18 => ?_)
          · refine g_aload_n (i := 0) C dX6_spare_52 rfl rfl ?_
            refine g_getO C f_X6_20 eo dX6_spare_53 (fun q17 _ eq17 => ?_)
            refine g_getI C f_X6_168 eq17 dX6_spare_56 ?_
            exact g_ireti C dX6_spare_59
          · refine g_aload_n (i := 0) C dX6_spare_60 rfl rfl ?_
            refine g_iload_n (i := 3) C dX6_spare_61 rfl rfl ?_
            refine g_cVi1 C cf_X6_85 cv_X6_isCheese eo (fun r h' e => c_X6_isCheese E o p2 eo h9 e) (by decide) (by decide) (Nat.le_of_ble_eq_true rfl) dX6_spare_62 (fun r11 h10 _ => ?_)
            refine g_if_eq C 92 dX6_spare_65 (by decide) (fun hc16 => ?_) (fun hc16 => ?_)
            · refine g_bipush (v := -9) C dX6_spare_92 (by decide) ?_
              exact g_ireti C dX6_spare_94
            · refine g_aload_n (i := 0) C dX6_spare_68 rfl rfl ?_
              refine g_getO C f_X6_20 eo dX6_spare_69 (fun q12 _ eq12 => ?_)
              refine g_getI C f_X6_168 eq12 dX6_spare_72 ?_
              refine g_bipush (v := -9) C dX6_spare_75 (by decide) ?_
              refine g_icmp_eq C 92 dX6_spare_77 (by decide) (fun hc15 => ?_) (fun hc15 => ?_)
              · refine g_bipush (v := -9) C dX6_spare_92 (by decide) ?_
                exact g_ireti C dX6_spare_94
              · refine g_aload_n (i := 0) C dX6_spare_80 rfl rfl ?_
                refine g_getO C f_X6_20 eo dX6_spare_81 (fun q13 _ eq13 => ?_)
                refine g_getA C f_X6_171 eq13 dX6_spare_84 (fun q14 _ => ?_)
                refine g_iload_n (i := 3) C dX6_spare_87 rfl rfl ?_
                refine g_iald C dX6_spare_88 ?_
                refine g_goto C 94 dX6_spare_89 (by decide) ?_
                exact g_ireti C dX6_spare_94
        · refine g_bipush (v := -3) C dX6_spare_31 (by decide) ?_
          exact g_ireti C dX6_spare_33
  · refine g_iconst (v := -1) C dX6_spare_5 (by decide) ?_
    exact g_ireti C dX6_spare_6
set_option maxHeartbeats 4000000 in
set_option maxRecDepth 100000 in
theorem c_X6_tap (E : Ev) (o : Nat) (p0 : Int32) (eo : isO shC o 6 = true) (h : Hp) {r : Int32} {h' : Hp} (e : F_X6_tap o p0 h = some (r, h')) : Ctr E shC yX6_tap cX6_tap 2 (some .int) 2 [.ref (E.2.2.2 + o), .int p0] h (vi r) h' := by
  refine Ctr.ofG (val := vi) e (by decide) (Nat.le_of_ble_eq_true rfl) [some (.ref (E.2.2.2 + o)), some (.int p0)] rfl (fun X C => ?_)
  unfold F_X6_tap
  refine g_aload_n (i := 0) C dX6_tap_0 rfl rfl ?_
  refine g_iload_n (i := 1) C dX6_tap_1 rfl rfl ?_
  refine g_cVi1 C cf_X6_85 cv_X6_isCheese eo (fun r h' e => c_X6_isCheese E o p0 eo h e) (by decide) (by decide) (Nat.le_of_ble_eq_true rfl) dX6_tap_2 (fun r2 h1 _ => ?_)
  refine g_if_ne C 10 dX6_tap_5 (by decide) (fun hc8 => ?_) (fun hc8 => ?_)
  · refine g_iconst (v := -1) C dX6_tap_8 (by decide) ?_
    exact g_ireti C dX6_tap_9
  · refine g_aload_n (i := 0) C dX6_tap_10 rfl rfl ?_
    refine g_getO C f_X6_41 eo dX6_tap_11 (fun q3 _ eq3 => ?_)
    refine g_getA C f_X6_88 eq3 dX6_tap_14 (fun q4 _ => ?_)
    refine g_iload_n (i := 1) C dX6_tap_17 rfl rfl ?_
    refine g_iald C dX6_tap_18 ?_
    refine g_iconst (v := 2) C dX6_tap_19 (by decide) ?_
    refine g_icmp_ne C 31 dX6_tap_20 (by decide) (fun hc7 => ?_) (fun hc7 => ?_)
    · refine g_aload_n (i := 0) C dX6_tap_23 rfl rfl ?_
      refine g_iconst (v := 5) C dX6_tap_24 (by decide) ?_
      refine g_cVv1 C cf_X6_238 cv_X6_leave eo (fun r h' e => c_X6_leave E o (5 : Int32) eo h1 e) (by decide) (by decide) (Nat.le_of_ble_eq_true rfl) dX6_tap_25 (fun _ h6 _ => ?_)
      refine g_bipush (v := 70) C dX6_tap_28 (by decide) ?_
      exact g_ireti C dX6_tap_30
    · refine g_aload_n (i := 0) C dX6_tap_31 rfl rfl ?_
      refine g_iconst (v := 4) C dX6_tap_32 (by decide) ?_
      refine g_cVv1 C cf_X6_238 cv_X6_leave eo (fun r h' e => c_X6_leave E o (4 : Int32) eo h1 e) (by decide) (by decide) (Nat.le_of_ble_eq_true rfl) dX6_tap_33 (fun _ h5 _ => ?_)
      refine g_iload_n (i := 1) C dX6_tap_36 rfl rfl ?_
      exact g_ireti C dX6_tap_37
set_option maxHeartbeats 4000000 in
set_option maxRecDepth 100000 in
theorem c_X6_tell (E : Ev) (o : Nat) (p0 : Int32) (eo : isO shC o 6 = true) (h : Hp) {r : Int32} {h' : Hp} (e : F_X6_tell o p0 h = some (r, h')) : Ctr E shC yX6_tell cX6_tell 3 (some .int) 5 [.ref (E.2.2.2 + o), .int p0] h (vi r) h' := by
  refine Ctr.ofG (val := vi) e (by decide) (Nat.le_of_ble_eq_true rfl) [some (.ref (E.2.2.2 + o)), some (.int p0), none] rfl (fun X C => ?_)
  unfold F_X6_tell
  refine g_aload_n (i := 0) C dX6_tell_0 rfl rfl ?_
  refine g_iload_n (i := 1) C dX6_tell_1 rfl rfl ?_
  refine g_cVi1 C cf_X6_85 cv_X6_isCheese eo (fun r h' e => c_X6_isCheese E o p0 eo h e) (by decide) (by decide) (Nat.le_of_ble_eq_true rfl) dX6_tell_2 (fun r2 h1 _ => ?_)
  refine g_if_ne C 10 dX6_tell_5 (by decide) (fun hc14 => ?_) (fun hc14 => ?_)
  · refine g_iconst (v := -1) C dX6_tell_8 (by decide) ?_
    exact g_ireti C dX6_tell_9
  · refine g_aload_n (i := 0) C dX6_tell_10 rfl rfl ?_
    refine g_getO C f_X6_41 eo dX6_tell_11 (fun q3 _ eq3 => ?_)
    refine g_getA C f_X6_94 eq3 dX6_tell_14 (fun q4 _ => ?_)
    refine g_iload_n (i := 1) C dX6_tell_17 rfl rfl ?_
    refine g_iald C dX6_tell_18 ?_
    refine g_topi (fun x5 => ?_)
    refine g_istore_n (i := 2) C [some (.ref (E.2.2.2 + o)), some (.int p0), some (.int x5)] dX6_tell_19 rfl (by decide) rfl rfl ?_
    refine g_aload_n (i := 0) C dX6_tell_20 rfl rfl ?_
    refine g_getO C f_X6_41 eo dX6_tell_21 (fun q6 _ eq6 => ?_)
    refine g_getA C f_X6_88 eq6 dX6_tell_24 (fun q7 _ => ?_)
    refine g_iload_n (i := 1) C dX6_tell_27 rfl rfl ?_
    refine g_iald C dX6_tell_28 ?_
    refine g_if (fun hs29_0 => ?_) (fun hs29_0 => ?_)
    · refine g_lookup C 62 (off := 33) dX6_tell_29 (by decide) (by rw [hs29_0]; rfl) (by decide) ?_
      refine g_aload_n (i := 0) C dX6_tell_62 rfl rfl ?_
      refine g_iload_n (i := 2) C dX6_tell_63 rfl rfl ?_
      refine g_cVi1 C cf_X6_232 cv_X6_waxedTells eo (fun r h' e => c_X6_waxedTells E o x5 eo h1 e) (by decide) (by decide) (Nat.le_of_ble_eq_true rfl) dX6_tell_64 (fun r9 h8 _ => ?_)
      exact g_ireti C dX6_tell_67
    · refine g_if (fun hs29_1 => ?_) (fun hs29_1 => ?_)
      · refine g_lookup C 56 (off := 27) dX6_tell_29 (by decide) (by rw [hs29_1]; rfl) (by decide) ?_
        refine g_aload_n (i := 0) C dX6_tell_56 rfl rfl ?_
        refine g_iload_n (i := 2) C dX6_tell_57 rfl rfl ?_
        refine g_cVi1 C cf_X6_229 cv_X6_mitedTells eo (fun r h' e => c_X6_mitedTells E o x5 eo h1 e) (by decide) (by decide) (Nat.le_of_ble_eq_true rfl) dX6_tell_58 (fun r11 h10 _ => ?_)
        exact g_ireti C dX6_tell_61
      · refine g_lookup C 68 (off := 39) dX6_tell_29 (by decide) (by rw [lv_osw (k := 1) hs29_0 (by decide), lv_osw (k := 2) hs29_1 (by decide)]; rfl) (by decide) ?_
        refine g_aload_n (i := 0) C dX6_tell_68 rfl rfl ?_
        refine g_iload_n (i := 2) C dX6_tell_69 rfl rfl ?_
        refine g_cVi1 C cf_X6_235 cv_X6_plainTells eo (fun r h' e => c_X6_plainTells E o x5 eo h1 e) (by decide) (by decide) (Nat.le_of_ble_eq_true rfl) dX6_tell_70 (fun r13 h12 _ => ?_)
        exact g_ireti C dX6_tell_73
set_option maxHeartbeats 4000000 in
set_option maxRecDepth 100000 in
theorem c_X6_trace (E : Ev) (o : Nat) (eo : isO shC o 6 = true) (h : Hp) {r : Int32} {h' : Hp} (e : F_X6_trace o h = some (r, h')) : Ctr E shC yX6_trace cX6_trace 1 (some .int) 1 [.ref (E.2.2.2 + o)] h (vi r) h' := by
  refine Ctr.ofG (val := vi) e (by decide) (Nat.le_of_ble_eq_true rfl) [some (.ref (E.2.2.2 + o))] rfl (fun X C => ?_)
  unfold F_X6_trace
  refine g_aload_n (i := 0) C dX6_trace_0 rfl rfl ?_
  refine g_getI C f_X6_48 eo dX6_trace_1 ?_
  exact g_ireti C dX6_trace_4
set_option maxHeartbeats 4000000 in
set_option maxRecDepth 100000 in
theorem c_X6_undo (E : Ev) (o : Nat) (p0 : Int32) (eo : isO shC o 6 = true) (h : Hp) {r : Int32} {h' : Hp} (e : F_X6_undo o p0 h = some (r, h')) : Ctr E shC yX6_undo cX6_undo 3 (some .int) 3 [.ref (E.2.2.2 + o), .int p0] h (vi r) h' := by
  refine Ctr.ofG (val := vi) e (by decide) (Nat.le_of_ble_eq_true rfl) [some (.ref (E.2.2.2 + o)), some (.int p0), none] rfl (fun X C => ?_)
  unfold F_X6_undo
  refine g_aload_n (i := 0) C dX6_undo_0 rfl rfl ?_
  refine g_getO C f_X6_41 eo dX6_undo_1 (fun q1 _ eq1 => ?_)
  refine g_getO C f_X6_118 eq1 dX6_undo_4 (fun q2 _ eq2 => ?_)
  refine g_iload_n (i := 1) C dX6_undo_7 rfl rfl ?_
  refine g_cVi1 C cf_X6_131 cv_X3_takeBack eq2 (fun r h' e => c_X3_takeBack E q2 p0 eq2 h e) (by decide) (by decide) (Nat.le_of_ble_eq_true rfl) dX6_undo_8 (fun r4 h3 _ => ?_)
  refine g_istore_n (i := 2) C [some (.ref (E.2.2.2 + o)), some (.int p0), some (.int r4)] dX6_undo_11 rfl (by decide) rfl rfl ?_
  refine g_aload_n (i := 0) C dX6_undo_12 rfl rfl ?_
  refine g_getO C f_X6_41 eo dX6_undo_13 (fun q5 _ eq5 => ?_)
  refine g_cVv0 C cf_X6_128 cv_X0_carry eq5 (fun r h' e => c_X0_carry E q5 eq5 h3 e) (by decide) (by decide) (Nat.le_of_ble_eq_true rfl) dX6_undo_16 (fun _ h6 _ => ?_)
  refine g_iload_n (i := 2) C dX6_undo_19 rfl rfl ?_
  exact g_ireti C dX6_undo_20
set_option maxHeartbeats 4000000 in
set_option maxRecDepth 100000 in
theorem G_F_X6_wall_J26 {E : Ev} {X : Cx} (C : Ok E X cX6_wall RX6 4 (some .int) 2) (q5 : Nat) (x6 : Int32) (x7 : Int32) (eq5 : isO shC q5 6 = true) (h8 : Hp) : G E shC X vi 26 [some (.ref (E.2.2.2 + q5)), some (.int x6), some (.int x7), none] [] h8 (F_X6_wall_J26 q5 x6 x7 h8) := by
  unfold F_X6_wall_J26
  refine g_aload_n (i := 0) C dX6_wall_26 rfl rfl ?_
  refine g_getO C f_X6_41 eq5 dX6_wall_27 (fun q9 _ eq9 => ?_)
  refine g_getA C f_X6_97 eq9 dX6_wall_30 (fun q10 _ => ?_)
  refine g_iload_n (i := 1) C dX6_wall_33 rfl rfl ?_
  refine g_iald C dX6_wall_34 ?_
  refine g_topi (fun x11 => ?_)
  refine g_istore_n (i := 3) C [some (.ref (E.2.2.2 + q5)), some (.int x6), some (.int x7), some (.int x11)] dX6_wall_35 rfl (by decide) rfl rfl ?_
  refine g_aload_n (i := 0) C dX6_wall_36 rfl rfl ?_
  refine g_getO C f_X6_41 eq5 dX6_wall_37 (fun q12 _ eq12 => ?_)
  refine g_getA C f_X6_97 eq12 dX6_wall_40 (fun q13 _ => ?_)
  refine g_iload_n (i := 1) C dX6_wall_43 rfl rfl ?_
  refine g_iload_n (i := 2) C dX6_wall_44 rfl rfl ?_
  refine g_iast C dX6_wall_45 (fun h14 => ?_)
  refine g_iload_n (i := 3) C dX6_wall_46 rfl rfl ?_
  exact g_ireti C dX6_wall_47
set_option maxHeartbeats 4000000 in
set_option maxRecDepth 100000 in
theorem c_X6_wall (E : Ev) (o : Nat) (p0 : Int32) (p1 : Int32) (eo : isO shC o 6 = true) (h : Hp) {r : Int32} {h' : Hp} (e : F_X6_wall o p0 p1 h = some (r, h')) : Ctr E shC yX6_wall cX6_wall 4 (some .int) 2 [.ref (E.2.2.2 + o), .int p0, .int p1] h (vi r) h' := by
  refine Ctr.ofG (val := vi) e (by decide) (Nat.le_of_ble_eq_true rfl) [some (.ref (E.2.2.2 + o)), some (.int p0), some (.int p1), none] rfl (fun X C => ?_)
  unfold F_X6_wall
  refine g_aload_n (i := 0) C dX6_wall_0 rfl rfl ?_
  refine g_iload_n (i := 1) C dX6_wall_1 rfl rfl ?_
  refine g_cVi1 C cf_X6_85 cv_X6_isCheese eo (fun r h' e => c_X6_isCheese E o p0 eo h e) (by decide) (by decide) (Nat.le_of_ble_eq_true rfl) dX6_wall_2 (fun r2 h1 _ => ?_)
  refine g_if_ne C 10 dX6_wall_5 (by decide) (fun hc17 => ?_) (fun hc17 => ?_)
  · refine g_iconst (v := -1) C dX6_wall_8 (by decide) ?_
    exact g_ireti C dX6_wall_9
  · refine g_iload_n (i := 2) C dX6_wall_10 rfl rfl ?_
    refine g_cSi1 C cf_X6_115 aw_24 (fun r h' e => c_X6_isDay E p1 h1 e) (by decide) (by decide) (Nat.le_of_ble_eq_true rfl) dX6_wall_11 (fun r4 h3 _ => ?_)
    refine g_if_ne C 26 dX6_wall_14 (by decide) (fun hc16 => ?_) (fun hc16 => ?_)
    · refine g_iload_n (i := 2) C dX6_wall_17 rfl rfl ?_
      refine g_bipush (v := -9) C dX6_wall_18 (by decide) ?_
      refine g_icmp_eq C 26 dX6_wall_20 (by decide) (fun hc15 => ?_) (fun hc15 => ?_)
      · exact G_F_X6_wall_J26 C o p0 p1 eo h3
      · refine g_bipush (v := -2) C dX6_wall_23 (by decide) ?_
        exact g_ireti C dX6_wall_25
    · exact G_F_X6_wall_J26 C o p0 p1 eo h3
set_option maxHeartbeats 4000000 in
set_option maxRecDepth 100000 in
theorem c_X6_where (E : Ev) (o : Nat) (p0 : Int32) (p1 : Int32) (eo : isO shC o 6 = true) (h : Hp) {r : Int32} {h' : Hp} (e : F_X6_where o p0 p1 h = some (r, h')) : Ctr E shC yX6_where cX6_where 3 (some .int) 2 [.ref (E.2.2.2 + o), .int p0, .int p1] h (vi r) h' := by
  refine Ctr.ofG (val := vi) e (by decide) (Nat.le_of_ble_eq_true rfl) [some (.ref (E.2.2.2 + o)), some (.int p0), some (.int p1)] rfl (fun X C => ?_)
  unfold F_X6_where
  refine g_aload_n (i := 0) C dX6_where_0 rfl rfl ?_
  refine g_iload_n (i := 1) C dX6_where_1 rfl rfl ?_
  refine g_cVi1 C cf_X6_85 cv_X6_isCheese eo (fun r h' e => c_X6_isCheese E o p0 eo h e) (by decide) (by decide) (Nat.le_of_ble_eq_true rfl) dX6_where_2 (fun r2 h1 _ => ?_)
  refine g_if_ne C 10 dX6_where_5 (by decide) (fun hc9 => ?_) (fun hc9 => ?_)
  · refine g_iconst (v := -1) C dX6_where_8 (by decide) ?_
    exact g_ireti C dX6_where_9
  · refine g_iload_n (i := 2) C dX6_where_10 rfl rfl ?_
    refine g_cSi1 C cf_X6_115 aw_24 (fun r h' e => c_X6_isDay E p1 h1 e) (by decide) (by decide) (Nat.le_of_ble_eq_true rfl) dX6_where_11 (fun r4 h3 _ => ?_)
    refine g_if_eq C 29 dX6_where_14 (by decide) (fun hc8 => ?_) (fun hc8 => ?_)
    · refine g_bipush (v := -2) C dX6_where_29 (by decide) ?_
      exact g_ireti C dX6_where_31
    · refine g_aload_n (i := 0) C dX6_where_17 rfl rfl ?_
      refine g_getO C f_X6_41 eo dX6_where_18 (fun q5 _ eq5 => ?_)
      refine g_iload_n (i := 1) C dX6_where_21 rfl rfl ?_
      refine g_iload_n (i := 2) C dX6_where_22 rfl rfl ?_
      refine g_cVi2 C cf_X6_134 cv_X0_cellarOn eq5 (fun r h' e => c_X0_cellarOn E q5 p0 p1 eq5 h3 e) (by decide) (by decide) (Nat.le_of_ble_eq_true rfl) dX6_where_23 (fun r7 h6 _ => ?_)
      refine g_goto C 31 dX6_where_26 (by decide) ?_
      exact g_ireti C dX6_where_31
set_option maxHeartbeats 4000000 in
set_option maxRecDepth 100000 in
theorem c_X6_words (E : Ev) (o : Nat) (p0 : Int32) (eo : isO shC o 6 = true) (h : Hp) {r : Int32} {h' : Hp} (e : F_X6_words o p0 h = some (r, h')) : Ctr E shC yX6_words cX6_words 2 (some .int) 5 [.ref (E.2.2.2 + o), .int p0] h (vi r) h' := by
  refine Ctr.ofG (val := vi) e (by decide) (Nat.le_of_ble_eq_true rfl) [some (.ref (E.2.2.2 + o)), some (.int p0)] rfl (fun X C => ?_)
  unfold F_X6_words
  refine g_aload_n (i := 0) C dX6_words_0 rfl rfl ?_
  refine g_iload_n (i := 1) C dX6_words_1 rfl rfl ?_
  refine g_cVi1 C cf_X6_100 cv_X6_isTalk eo (fun r h' e => c_X6_isTalk E o p0 eo h e) (by decide) (by decide) (Nat.le_of_ble_eq_true rfl) dX6_words_2 (fun r2 h1 _ => ?_)
  refine g_if_eq C 26 dX6_words_5 (by decide) (fun hc7 => ?_) (fun hc7 => ?_)
  · refine g_iconst (v := -1) C dX6_words_26 (by decide) ?_
    exact g_ireti C dX6_words_27
  · refine g_aload_n (i := 0) C dX6_words_8 rfl rfl ?_
    refine g_aload_n (i := 0) C dX6_words_9 rfl rfl ?_
    refine g_getO C f_X6_41 eo dX6_words_10 (fun q3 _ eq3 => ?_)
    refine g_getA C f_X6_109 eq3 dX6_words_13 (fun q4 _ => ?_)
    refine g_iload_n (i := 1) C dX6_words_16 rfl rfl ?_
    refine g_iconst (v := 0) C dX6_words_17 (by decide) ?_
    refine g_bipush (v := 7) C dX6_words_18 (by decide) ?_
    refine g_cVi4 C cf_X6_190 cv_X6_fitting eo (fun r h' e => c_X6_fitting E o q4 p0 (0 : Int32) (7 : Int32) eo h1 e) (by decide) (by decide) (Nat.le_of_ble_eq_true rfl) dX6_words_20 (fun r6 h5 _ => ?_)
    refine g_goto C 27 dX6_words_23 (by decide) ?_
    exact g_ireti C dX6_words_27
