set_option maxRecDepth 20000 in
theorem caw_0 : Cond.methodLink RX4 3 objectInit ∈ AW := aw_t1 (i := 28) (by decide +kernel) rfl
set_option maxRecDepth 20000 in
theorem caw_1 : Cond.instanceMethod objectInit ∈ AW := aw_t1 (i := 19) (by decide +kernel) rfl
set_option maxRecDepth 20000 in
theorem caw_2 : Cond.code objectInit object_method_1_code 1 none ∈ AW := aw_t1 (i := 20) (rfl) rfl
set_option maxRecDepth 20000 in
theorem caw_3 : Cond.arrayClass .int ∈ AW := aw_t1 (i := 58) (by decide +kernel) rfl
set_option maxRecDepth 20000 in
theorem caw_4 : Cond.classLink RX4 19 ("[" ++ (FieldType.array .int).toString) ∈ AW := aw_t1 (i := 29) (by decide +kernel) rfl
set_option maxRecDepth 20000 in
theorem caw_5 : Cond.methodLink RX2 3 objectInit ∈ AW := aw_t1 (i := 64) (by decide +kernel) rfl
set_option maxRecDepth 20000 in
theorem caw_6 : Cond.classLink RX2 19 ("[" ++ (FieldType.array .int).toString) ∈ AW := aw_t1 (i := 65) (by decide +kernel) rfl
set_option maxRecDepth 20000 in
theorem caw_7 : Cond.methodLink RX5 3 objectInit ∈ AW := aw_t1 (i := 92) (by decide +kernel) rfl
set_option maxRecDepth 20000 in
theorem caw_8 : Cond.methodLink RX3 3 objectInit ∈ AW := aw_t1 (i := 119) (by decide +kernel) rfl
set_option maxRecDepth 20000 in
theorem caw_9 : Cond.methodLink RX0 3 objectInit ∈ AW := aw_t1 (i := 113) (by decide +kernel) rfl
set_option maxRecDepth 20000 in
theorem caw_10 : Cond.classLink RX0 53 ("[" ++ (FieldType.array .int).toString) ∈ AW := aw_t1 (i := 138) (by decide +kernel) rfl
set_option maxRecDepth 20000 in
theorem caw_11 : Cond.methodLink RX1 3 objectInit ∈ AW := aw_t1 (i := 205) (by decide +kernel) rfl
set_option maxRecDepth 20000 in
theorem caw_12 : Cond.methodLink RX6 3 objectInit ∈ AW := aw_t1 (i := 18) (by decide +kernel) rfl
set_option maxRecDepth 20000 in
theorem caw_13 : Cond.classLink RX6 11 RX1 ∈ AW := aw_t1 (i := 21) (by decide +kernel) rfl
set_option maxRecDepth 20000 in
theorem caw_14 : Cond.methodLink RX7 1 objectInit ∈ AW := aw_t3 (i := 120) (by decide +kernel) rfl
set_option maxRecDepth 20000 in
theorem caw_15 : Cond.classLink RX0 43 RX3 ∈ AW := aw_t1 (i := 114) (by decide +kernel) rfl
set_option maxRecDepth 20000 in
theorem caw_16 : Cond.instantiable RX3 4 ∈ AW := aw_t1 (i := 115) (by decide +kernel) rfl
set_option maxRecDepth 20000 in
theorem caw_17 : Cond.initialized RX3 ∈ AW := aw_t1 (i := 6) (by decide +kernel) rfl
set_option maxRecDepth 20000 in
theorem caw_18 : Cond.instantiable RX1 3 ∈ AW := aw_t1 (i := 201) (by decide +kernel) rfl
set_option maxRecDepth 20000 in
theorem caw_19 : Cond.initialized RX1 ∈ AW := aw_t1 (i := 7) (by decide +kernel) rfl
set_option maxRecDepth 20000 in
theorem caw_20 : Cond.classLink RX6 17 RX4 ∈ AW := aw_t1 (i := 23) (by decide +kernel) rfl
set_option maxRecDepth 20000 in
theorem caw_21 : Cond.instantiable RX4 8 ∈ AW := aw_t1 (i := 24) (by decide +kernel) rfl
set_option maxRecDepth 20000 in
theorem caw_22 : Cond.initialized RX4 ∈ AW := aw_t1 (i := 2) (by decide +kernel) rfl
set_option maxRecDepth 20000 in
theorem caw_23 : Cond.classLink RX6 24 RX2 ∈ AW := aw_t1 (i := 59) (by decide +kernel) rfl
set_option maxRecDepth 20000 in
theorem caw_24 : Cond.instantiable RX2 6 ∈ AW := aw_t1 (i := 60) (by decide +kernel) rfl
set_option maxRecDepth 20000 in
theorem caw_25 : Cond.initialized RX2 ∈ AW := aw_t1 (i := 3) (by decide +kernel) rfl
set_option maxRecDepth 20000 in
theorem caw_26 : Cond.classLink RX6 31 RX5 ∈ AW := aw_t1 (i := 87) (by decide +kernel) rfl
set_option maxRecDepth 20000 in
theorem caw_27 : Cond.instantiable RX5 4 ∈ AW := aw_t1 (i := 88) (by decide +kernel) rfl
set_option maxRecDepth 20000 in
theorem caw_28 : Cond.initialized RX5 ∈ AW := aw_t1 (i := 4) (by decide +kernel) rfl
set_option maxRecDepth 20000 in
theorem caw_29 : Cond.classLink RX6 38 RX0 ∈ AW := aw_t1 (i := 108) (by decide +kernel) rfl
set_option maxRecDepth 20000 in
theorem caw_30 : Cond.instantiable RX0 14 ∈ AW := aw_t1 (i := 109) (by decide +kernel) rfl
set_option maxRecDepth 20000 in
theorem caw_31 : Cond.initialized RX0 ∈ AW := aw_t1 (i := 5) (by decide +kernel) rfl
set_option maxRecDepth 20000 in
theorem caw_32 : Cond.code yX3_init cX3_init 1 none ∈ AW := aw_t1 (i := 118) (rfl) rfl
set_option maxRecDepth 20000 in
theorem caw_33 : Cond.instanceMethod yX3_init ∈ AW := aw_t1 (i := 117) (by decide +kernel) rfl
set_option maxRecDepth 20000 in
theorem caw_34 : Cond.code yX4_init cX4_init 1 none ∈ AW := aw_t1 (i := 27) (rfl) rfl
set_option maxRecDepth 20000 in
theorem caw_35 : Cond.instanceMethod yX4_init ∈ AW := aw_t1 (i := 26) (by decide +kernel) rfl
set_option maxRecDepth 20000 in
theorem caw_36 : Cond.code yX2_init cX2_init 1 none ∈ AW := aw_t1 (i := 63) (rfl) rfl
set_option maxRecDepth 20000 in
theorem caw_37 : Cond.instanceMethod yX2_init ∈ AW := aw_t1 (i := 62) (by decide +kernel) rfl
set_option maxRecDepth 20000 in
theorem caw_38 : Cond.code yX5_init cX5_init 1 none ∈ AW := aw_t1 (i := 91) (rfl) rfl
set_option maxRecDepth 20000 in
theorem caw_39 : Cond.instanceMethod yX5_init ∈ AW := aw_t1 (i := 90) (by decide +kernel) rfl
set_option maxRecDepth 20000 in
theorem caw_40 : Cond.code yX0_init cX0_init 1 none ∈ AW := aw_t1 (i := 112) (rfl) rfl
set_option maxRecDepth 20000 in
theorem caw_41 : Cond.instanceMethod yX0_init ∈ AW := aw_t1 (i := 111) (by decide +kernel) rfl
set_option maxRecDepth 20000 in
theorem caw_42 : Cond.code yX1_init cX1_init 1 none ∈ AW := aw_t1 (i := 204) (rfl) rfl
set_option maxRecDepth 20000 in
theorem caw_43 : Cond.instanceMethod yX1_init ∈ AW := aw_t1 (i := 203) (by decide +kernel) rfl
set_option maxRecDepth 20000 in
theorem fo_X0_0_3 : FO RX0 0 3 := fun Cn T N h => by
  have h2 : (RX0, TX0, 14) = (Cn, T, N) := Option.some.inj h
  cases h2
  rfl
set_option maxRecDepth 20000 in
theorem fo_X0_0_4 : FO RX0 0 4 := fun Cn T N h => by
  have h2 : (RX0, TX0, 14) = (Cn, T, N) := Option.some.inj h
  cases h2
  rfl
set_option maxRecDepth 20000 in
theorem fo_X0_0_5 : FO RX0 0 5 := fun Cn T N h => by
  have h2 : (RX0, TX0, 14) = (Cn, T, N) := Option.some.inj h
  cases h2
  rfl
set_option maxRecDepth 20000 in
theorem fo_X0_0_6 : FO RX0 0 6 := fun Cn T N h => by
  have h2 : (RX0, TX0, 14) = (Cn, T, N) := Option.some.inj h
  cases h2
  rfl
set_option maxRecDepth 20000 in
theorem fo_X0_0_7 : FO RX0 0 7 := fun Cn T N h => by
  have h2 : (RX0, TX0, 14) = (Cn, T, N) := Option.some.inj h
  cases h2
  rfl
set_option maxRecDepth 20000 in
theorem fo_X0_0_8 : FO RX0 0 8 := fun Cn T N h => by
  have h2 : (RX0, TX0, 14) = (Cn, T, N) := Option.some.inj h
  cases h2
  rfl
set_option maxRecDepth 20000 in
theorem fo_X0_0_9 : FO RX0 0 9 := fun Cn T N h => by
  have h2 : (RX0, TX0, 14) = (Cn, T, N) := Option.some.inj h
  cases h2
  rfl
set_option maxRecDepth 20000 in
theorem fo_X0_0_10 : FO RX0 0 10 := fun Cn T N h => by
  have h2 : (RX0, TX0, 14) = (Cn, T, N) := Option.some.inj h
  cases h2
  rfl
set_option maxRecDepth 20000 in
theorem fo_X0_0_11 : FO RX0 0 11 := fun Cn T N h => by
  have h2 : (RX0, TX0, 14) = (Cn, T, N) := Option.some.inj h
  cases h2
  rfl
set_option maxRecDepth 20000 in
theorem fo_X0_0_12 : FO RX0 0 12 := fun Cn T N h => by
  have h2 : (RX0, TX0, 14) = (Cn, T, N) := Option.some.inj h
  cases h2
  rfl
set_option maxRecDepth 20000 in
theorem fo_X0_0_13 : FO RX0 0 13 := fun Cn T N h => by
  have h2 : (RX0, TX0, 14) = (Cn, T, N) := Option.some.inj h
  cases h2
  rfl
set_option maxRecDepth 20000 in
theorem fo_X1_1_0 : FO RX1 1 0 := fun Cn T N h => by
  have h2 : (RX1, TX1, 3) = (Cn, T, N) := Option.some.inj h
  cases h2
  rfl
set_option maxRecDepth 20000 in
theorem fo_X2_2_0 : FO RX2 2 0 := fun Cn T N h => by
  have h2 : (RX2, TX2, 6) = (Cn, T, N) := Option.some.inj h
  cases h2
  rfl
set_option maxRecDepth 20000 in
theorem fo_X2_2_2 : FO RX2 2 2 := fun Cn T N h => by
  have h2 : (RX2, TX2, 6) = (Cn, T, N) := Option.some.inj h
  cases h2
  rfl
set_option maxRecDepth 20000 in
theorem fo_X2_2_3 : FO RX2 2 3 := fun Cn T N h => by
  have h2 : (RX2, TX2, 6) = (Cn, T, N) := Option.some.inj h
  cases h2
  rfl
set_option maxRecDepth 20000 in
theorem fo_X3_3_0 : FO RX3 3 0 := fun Cn T N h => by
  have h2 : (RX3, TX3, 4) = (Cn, T, N) := Option.some.inj h
  cases h2
  rfl
set_option maxRecDepth 20000 in
theorem fo_X3_3_1 : FO RX3 3 1 := fun Cn T N h => by
  have h2 : (RX3, TX3, 4) = (Cn, T, N) := Option.some.inj h
  cases h2
  rfl
set_option maxRecDepth 20000 in
theorem fo_X3_3_2 : FO RX3 3 2 := fun Cn T N h => by
  have h2 : (RX3, TX3, 4) = (Cn, T, N) := Option.some.inj h
  cases h2
  rfl
set_option maxRecDepth 20000 in
theorem fo_X4_4_0 : FO RX4 4 0 := fun Cn T N h => by
  have h2 : (RX4, TX4, 8) = (Cn, T, N) := Option.some.inj h
  cases h2
  rfl
set_option maxRecDepth 20000 in
theorem fo_X4_4_2 : FO RX4 4 2 := fun Cn T N h => by
  have h2 : (RX4, TX4, 8) = (Cn, T, N) := Option.some.inj h
  cases h2
  rfl
set_option maxRecDepth 20000 in
theorem fo_X4_4_3 : FO RX4 4 3 := fun Cn T N h => by
  have h2 : (RX4, TX4, 8) = (Cn, T, N) := Option.some.inj h
  cases h2
  rfl
set_option maxRecDepth 20000 in
theorem fo_X4_4_4 : FO RX4 4 4 := fun Cn T N h => by
  have h2 : (RX4, TX4, 8) = (Cn, T, N) := Option.some.inj h
  cases h2
  rfl
set_option maxRecDepth 20000 in
theorem fo_X4_4_5 : FO RX4 4 5 := fun Cn T N h => by
  have h2 : (RX4, TX4, 8) = (Cn, T, N) := Option.some.inj h
  cases h2
  rfl
set_option maxRecDepth 20000 in
theorem fo_X5_5_0 : FO RX5 5 0 := fun Cn T N h => by
  have h2 : (RX5, TX5, 4) = (Cn, T, N) := Option.some.inj h
  cases h2
  rfl
set_option maxRecDepth 20000 in
theorem fo_X5_5_1 : FO RX5 5 1 := fun Cn T N h => by
  have h2 : (RX5, TX5, 4) = (Cn, T, N) := Option.some.inj h
  cases h2
  rfl
set_option maxRecDepth 20000 in
theorem fo_X6_6_0 : FO RX6 6 0 := fun Cn T N h => by
  have h2 : (RX6, TX6, 8) = (Cn, T, N) := Option.some.inj h
  cases h2
  rfl
set_option maxRecDepth 20000 in
theorem fo_X6_6_1 : FO RX6 6 1 := fun Cn T N h => by
  have h2 : (RX6, TX6, 8) = (Cn, T, N) := Option.some.inj h
  cases h2
  rfl
set_option maxRecDepth 20000 in
theorem fo_X6_6_2 : FO RX6 6 2 := fun Cn T N h => by
  have h2 : (RX6, TX6, 8) = (Cn, T, N) := Option.some.inj h
  cases h2
  rfl
set_option maxRecDepth 20000 in
theorem fo_X6_6_3 : FO RX6 6 3 := fun Cn T N h => by
  have h2 : (RX6, TX6, 8) = (Cn, T, N) := Option.some.inj h
  cases h2
  rfl
set_option maxRecDepth 20000 in
theorem fo_X6_6_4 : FO RX6 6 4 := fun Cn T N h => by
  have h2 : (RX6, TX6, 8) = (Cn, T, N) := Option.some.inj h
  cases h2
  rfl
set_option maxRecDepth 20000 in
theorem fo_X6_6_5 : FO RX6 6 5 := fun Cn T N h => by
  have h2 : (RX6, TX6, 8) = (Cn, T, N) := Option.some.inj h
  cases h2
  rfl
set_option maxRecDepth 20000 in
theorem fo_X7_7_2 : FO RX7 7 2 := fun Cn T N h => by
  have h2 : (RX7, TX7, 33) = (Cn, T, N) := Option.some.inj h
  cases h2
  rfl
set_option maxRecDepth 20000 in
theorem fo_X7_7_3 : FO RX7 7 3 := fun Cn T N h => by
  have h2 : (RX7, TX7, 33) = (Cn, T, N) := Option.some.inj h
  cases h2
  rfl
set_option maxRecDepth 20000 in
theorem fo_X7_7_4 : FO RX7 7 4 := fun Cn T N h => by
  have h2 : (RX7, TX7, 33) = (Cn, T, N) := Option.some.inj h
  cases h2
  rfl
set_option maxRecDepth 20000 in
theorem fo_X7_7_8 : FO RX7 7 8 := fun Cn T N h => by
  have h2 : (RX7, TX7, 33) = (Cn, T, N) := Option.some.inj h
  cases h2
  rfl
set_option maxRecDepth 20000 in
theorem fo_X7_7_9 : FO RX7 7 9 := fun Cn T N h => by
  have h2 : (RX7, TX7, 33) = (Cn, T, N) := Option.some.inj h
  cases h2
  rfl
set_option maxRecDepth 20000 in
theorem fo_X7_7_10 : FO RX7 7 10 := fun Cn T N h => by
  have h2 : (RX7, TX7, 33) = (Cn, T, N) := Option.some.inj h
  cases h2
  rfl
set_option maxRecDepth 20000 in
theorem fo_X7_7_11 : FO RX7 7 11 := fun Cn T N h => by
  have h2 : (RX7, TX7, 33) = (Cn, T, N) := Option.some.inj h
  cases h2
  rfl
set_option maxRecDepth 20000 in
theorem fo_X7_7_12 : FO RX7 7 12 := fun Cn T N h => by
  have h2 : (RX7, TX7, 33) = (Cn, T, N) := Option.some.inj h
  cases h2
  rfl
set_option maxRecDepth 20000 in
theorem fo_X7_7_13 : FO RX7 7 13 := fun Cn T N h => by
  have h2 : (RX7, TX7, 33) = (Cn, T, N) := Option.some.inj h
  cases h2
  rfl
set_option maxRecDepth 20000 in
theorem fo_X7_7_14 : FO RX7 7 14 := fun Cn T N h => by
  have h2 : (RX7, TX7, 33) = (Cn, T, N) := Option.some.inj h
  cases h2
  rfl
set_option maxRecDepth 20000 in
theorem fo_X7_7_16 : FO RX7 7 16 := fun Cn T N h => by
  have h2 : (RX7, TX7, 33) = (Cn, T, N) := Option.some.inj h
  cases h2
  rfl
set_option maxRecDepth 20000 in
theorem fo_X7_7_17 : FO RX7 7 17 := fun Cn T N h => by
  have h2 : (RX7, TX7, 33) = (Cn, T, N) := Option.some.inj h
  cases h2
  rfl
set_option maxRecDepth 20000 in
theorem fo_X7_7_18 : FO RX7 7 18 := fun Cn T N h => by
  have h2 : (RX7, TX7, 33) = (Cn, T, N) := Option.some.inj h
  cases h2
  rfl
set_option maxRecDepth 20000 in
theorem fo_X7_7_24 : FO RX7 7 24 := fun Cn T N h => by
  have h2 : (RX7, TX7, 33) = (Cn, T, N) := Option.some.inj h
  cases h2
  rfl
set_option maxRecDepth 20000 in
theorem fo_X7_7_25 : FO RX7 7 25 := fun Cn T N h => by
  have h2 : (RX7, TX7, 33) = (Cn, T, N) := Option.some.inj h
  cases h2
  rfl
set_option maxRecDepth 20000 in
theorem fo_X7_7_26 : FO RX7 7 26 := fun Cn T N h => by
  have h2 : (RX7, TX7, 33) = (Cn, T, N) := Option.some.inj h
  cases h2
  rfl
set_option maxRecDepth 20000 in
theorem fo_X7_7_27 : FO RX7 7 27 := fun Cn T N h => by
  have h2 : (RX7, TX7, 33) = (Cn, T, N) := Option.some.inj h
  cases h2
  rfl
set_option maxRecDepth 20000 in
theorem fo_X7_7_28 : FO RX7 7 28 := fun Cn T N h => by
  have h2 : (RX7, TX7, 33) = (Cn, T, N) := Option.some.inj h
  cases h2
  rfl
set_option maxRecDepth 20000 in
theorem fo_X7_7_30 : FO RX7 7 30 := fun Cn T N h => by
  have h2 : (RX7, TX7, 33) = (Cn, T, N) := Option.some.inj h
  cases h2
  rfl
set_option maxRecDepth 20000 in
theorem fo_X7_7_31 : FO RX7 7 31 := fun Cn T N h => by
  have h2 : (RX7, TX7, 33) = (Cn, T, N) := Option.some.inj h
  cases h2
  rfl
set_option maxRecDepth 20000 in
theorem fo_X7_7_32 : FO RX7 7 32 := fun Cn T N h => by
  have h2 : (RX7, TX7, 33) = (Cn, T, N) := Option.some.inj h
  cases h2
  rfl
set_option maxRecDepth 20000 in
theorem gn_X0_43 : GN RX0 43 3 4 := ⟨RX3, TX3, tyX3, rfl, caw_15, caw_16, caw_17, il_X3, tyX3_ok, rfl, by decide +kernel⟩
set_option maxRecDepth 20000 in
theorem gn_X6_11 : GN RX6 11 1 3 := ⟨RX1, TX1, tyX1, rfl, caw_13, caw_18, caw_19, il_X1, tyX1_ok, rfl, by decide +kernel⟩
set_option maxRecDepth 20000 in
theorem gn_X6_17 : GN RX6 17 4 8 := ⟨RX4, TX4, tyX4, rfl, caw_20, caw_21, caw_22, il_X4, tyX4_ok, rfl, by decide +kernel⟩
set_option maxRecDepth 20000 in
theorem gn_X6_24 : GN RX6 24 2 6 := ⟨RX2, TX2, tyX2, rfl, caw_23, caw_24, caw_25, il_X2, tyX2_ok, rfl, by decide +kernel⟩
set_option maxRecDepth 20000 in
theorem gn_X6_31 : GN RX6 31 5 4 := ⟨RX5, TX5, tyX5, rfl, caw_26, caw_27, caw_28, il_X5, tyX5_ok, rfl, by decide +kernel⟩
set_option maxRecDepth 20000 in
theorem gn_X6_38 : GN RX6 38 0 14 := ⟨RX0, TX0, tyX0, rfl, caw_29, caw_30, caw_31, il_X0, tyX0_ok, rfl, by decide +kernel⟩
set_option maxRecDepth 20000 in
theorem cn_X0_45 : CN RX0 45 yX3_init RX6 cX3_init 1 := ⟨caw_32, caw_17, List.mem_of_getElem? (i := 4) rfl, caw_33, rfl, by decide +kernel⟩
set_option maxRecDepth 20000 in
theorem cn_X6_19 : CN RX6 19 yX4_init RX6 cX4_init 1 := ⟨caw_34, caw_22, List.mem_of_getElem? (i := 0) rfl, caw_35, rfl, by decide +kernel⟩
set_option maxRecDepth 20000 in
theorem cn_X6_26 : CN RX6 26 yX2_init RX6 cX2_init 1 := ⟨caw_36, caw_25, List.mem_of_getElem? (i := 1) rfl, caw_37, rfl, by decide +kernel⟩
set_option maxRecDepth 20000 in
theorem cn_X6_33 : CN RX6 33 yX5_init RX6 cX5_init 1 := ⟨caw_38, caw_28, List.mem_of_getElem? (i := 2) rfl, caw_39, rfl, by decide +kernel⟩
set_option maxRecDepth 20000 in
theorem cn_X6_40 : CN RX6 40 yX0_init RX6 cX0_init 1 := ⟨caw_40, caw_31, List.mem_of_getElem? (i := 3) rfl, caw_41, rfl, by decide +kernel⟩
set_option maxRecDepth 20000 in
theorem cn_X6_55 : CN RX6 55 yX1_init RX6 cX1_init 1 := ⟨caw_42, caw_19, List.mem_of_getElem? (i := 5) rfl, caw_43, rfl, by decide +kernel⟩
def F_X4_init (o : Nat) (sh : Sh) (h : Hp) : Option (Sh × Hp) :=
  alc sh h (1, 4) fun q1 s2 h3 => nm (pR h3 o 0 (some q1)) fun h5 => nm (pI h5 o 1 (-9 : Int32)) fun h6 => alm s2 h6 4 9 fun q7 s8 h9 => nm (pR h9 o 2 (some q7)) fun h11 => alc s8 h11 (1, 4) fun q12 s13 h14 => nm (pR h14 o 3 (some q12)) fun h16 => alc s13 h16 (1, 5) fun q17 s18 h19 => nm (pR h19 o 4 (some q17)) fun h21 => alc s18 h21 (1, 4) fun q22 s23 h24 => nm (pR h24 o 5 (some q22)) fun h26 => nm (pI h26 o 6 (0 : Int32)) fun h27 => nm (pI h27 o 7 (0 : Int32)) fun h28 => some (s23, h28)
def F_X2_init (o : Nat) (sh : Sh) (h : Hp) : Option (Sh × Hp) :=
  alc sh h (1, 4) fun q1 s2 h3 => nm (pR h3 o 0 (some q1)) fun h5 => nm (pI h5 o 1 (-9 : Int32)) fun h6 => alm s2 h6 4 5 fun q7 s8 h9 => nm (pR h9 o 2 (some q7)) fun h11 => alc s8 h11 (1, 4) fun q12 s13 h14 => nm (pR h14 o 3 (some q12)) fun h16 => nm (pI h16 o 4 (0 : Int32)) fun h17 => nm (pI h17 o 5 (0 : Int32)) fun h18 => some (s13, h18)
def F_X5_init (o : Nat) (sh : Sh) (h : Hp) : Option (Sh × Hp) :=
  alc sh h (1, 4) fun q1 s2 h3 => nm (pR h3 o 0 (some q1)) fun h5 => alc s2 h5 (1, 4) fun q6 s7 h8 => nm (pR h8 o 1 (some q6)) fun h10 => nm (pI h10 o 2 (0 : Int32)) fun h11 => nm (pI h11 o 3 (1 : Int32)) fun h12 => some (s7, h12)
def F_X3_init (o : Nat) (sh : Sh) (h : Hp) : Option (Sh × Hp) :=
  alc sh h (1, 8) fun q1 s2 h3 => nm (pR h3 o 0 (some q1)) fun h5 => alc s2 h5 (1, 8) fun q6 s7 h8 => nm (pR h8 o 1 (some q6)) fun h10 => alc s7 h10 (1, 8) fun q11 s12 h13 => nm (pR h13 o 2 (some q11)) fun h15 => nm (pI h15 o 3 (0 : Int32)) fun h16 => some (s12, h16)
def F_X0_init (o : Nat) (sh : Sh) (h : Hp) : Option (Sh × Hp) :=
  nm (pI h o 0 (0 : Int32)) fun h1 => nm (pI h1 o 1 (0 : Int32)) fun h2 => nm (pI h2 o 2 (0 : Int32)) fun h3 => alc sh h3 (1, 4) fun q4 s5 h6 => nm (pR h6 o 3 (some q4)) fun h8 => alc s5 h8 (1, 4) fun q9 s10 h11 => nm (pR h11 o 4 (some q9)) fun h13 => alc s10 h13 (1, 4) fun q14 s15 h16 => nm (pR h16 o 5 (some q14)) fun h18 => alc s15 h18 (1, 4) fun q19 s20 h21 => nm (pR h21 o 6 (some q19)) fun h23 => alc s20 h23 (1, 8) fun q24 s25 h26 => nm (pR h26 o 7 (some q24)) fun h28 => alc s25 h28 (1, 8) fun q29 s30 h31 => nm (pR h31 o 8 (some q29)) fun h33 => alc s30 h33 (1, 8) fun q34 s35 h36 => nm (pR h36 o 9 (some q34)) fun h38 => alc s35 h38 (0, 3) fun q39 s40 h41 => bn2 (F_X3_init q39 s40 h41) fun s43 h44 => ck (s40.isPrefixOf s43) (nm (pR h44 o 10 (some q39)) fun h46 => alc s43 h46 (0, 3) fun q47 s48 h49 => bn2 (F_X3_init q47 s48 h49) fun s51 h52 => ck (s48.isPrefixOf s51) (nm (pR h52 o 11 (some q47)) fun h54 => alm s51 h54 4 8 fun q55 s56 h57 => nm (pR h57 o 12 (some q55)) fun h59 => alc s56 h59 (1, 4) fun q60 s61 h62 => nm (pR h62 o 13 (some q60)) fun h64 => some (s61, h64)))
def F_X1_init (o : Nat) (sh : Sh) (h : Hp) : Option (Sh × Hp) :=
  alc sh h (1, 60) fun q1 s2 h3 => nm (pR h3 o 0 (some q1)) fun h5 => nm (pI h5 o 1 (0 : Int32)) fun h6 => nm (pI h6 o 2 (-9 : Int32)) fun h7 => some (s2, h7)
def F_X6_init (o : Nat) (sh : Sh) (h : Hp) : Option (Sh × Hp) :=
  alc sh h (2, 4) fun q1 s2 h3 => nm (pR h3 o 0 (some q1)) fun h5 => alc s2 h5 (0, 4) fun q6 s7 h8 => bn2 (F_X4_init q6 s7 h8) fun s10 h11 => ck (s7.isPrefixOf s10) (nm (pR h11 o 1 (some q6)) fun h13 => alc s10 h13 (0, 2) fun q14 s15 h16 => bn2 (F_X2_init q14 s15 h16) fun s18 h19 => ck (s15.isPrefixOf s18) (nm (pR h19 o 2 (some q14)) fun h21 => alc s18 h21 (0, 5) fun q22 s23 h24 => bn2 (F_X5_init q22 s23 h24) fun s26 h27 => ck (s23.isPrefixOf s26) (nm (pR h27 o 3 (some q22)) fun h29 => alc s26 h29 (0, 0) fun q30 s31 h32 => bn2 (F_X0_init q30 s31 h32) fun s34 h35 => ck (s31.isPrefixOf s34) (nm (pR h35 o 4 (some q30)) fun h37 => alc s34 h37 (0, 0) fun q38 s39 h40 => bn2 (F_X0_init q38 s39 h40) fun s42 h43 => ck (s39.isPrefixOf s42) (nm (pR h43 o 5 (some q38)) fun h45 => nm (pI h45 o 6 (0 : Int32)) fun h46 => nm (pI h46 o 7 (0 : Int32)) fun h47 => (h47.2 o 0).bind fun q48 => alc s42 h47 (0, 1) fun q49 s50 h51 => bn2 (F_X1_init q49 s50 h51) fun s53 h54 => ck (s50.isPrefixOf s53) (ck (aRn s53 2 q48 (0 : Int32)) (nm (pR h54 q48 ((0 : Int32)).toNatClampNeg (some q49)) fun h56 => (h56.2 o 0).bind fun q57 => alc s53 h56 (0, 1) fun q58 s59 h60 => bn2 (F_X1_init q58 s59 h60) fun s62 h63 => ck (s59.isPrefixOf s62) (ck (aRn s62 2 q57 (1 : Int32)) (nm (pR h63 q57 ((1 : Int32)).toNatClampNeg (some q58)) fun h65 => (h65.2 o 0).bind fun q66 => alc s62 h65 (0, 1) fun q67 s68 h69 => bn2 (F_X1_init q67 s68 h69) fun s71 h72 => ck (s68.isPrefixOf s71) (ck (aRn s71 2 q66 (2 : Int32)) (nm (pR h72 q66 ((2 : Int32)).toNatClampNeg (some q67)) fun h74 => (h74.2 o 0).bind fun q75 => alc s71 h74 (0, 1) fun q76 s77 h78 => bn2 (F_X1_init q76 s77 h78) fun s80 h81 => ck (s77.isPrefixOf s80) (ck (aRn s80 2 q75 (3 : Int32)) (nm (pR h81 q75 ((3 : Int32)).toNatClampNeg (some q76)) fun h83 => some (s80, h83))))))))))))))
def F_X7_init (o : Nat) (sh : Sh) (h : Hp) : Option (Sh × Hp) :=
  alc sh h (1, 4) fun q1 s2 h3 => ck (aIn s2 q1 (0 : Int32)) (nm (pI h3 q1 ((0 : Int32)).toNatClampNeg (-9 : Int32)) fun h5 => ck (aIn s2 q1 (1 : Int32)) (nm (pI h5 q1 ((1 : Int32)).toNatClampNeg (-9 : Int32)) fun h6 => ck (aIn s2 q1 (2 : Int32)) (nm (pI h6 q1 ((2 : Int32)).toNatClampNeg (-9 : Int32)) fun h7 => ck (aIn s2 q1 (3 : Int32)) (nm (pI h7 q1 ((3 : Int32)).toNatClampNeg (-9 : Int32)) fun h8 => nm (pR h8 o 2 (some q1)) fun h9 => alc s2 h9 (1, 4) fun q10 s11 h12 => nm (pR h12 o 3 (some q10)) fun h14 => alc s11 h14 (1, 240) fun q15 s16 h17 => nm (pR h17 o 4 (some q15)) fun h19 => alc s16 h19 (1, 4) fun q20 s21 h22 => nm (pR h22 o 8 (some q20)) fun h24 => alc s21 h24 (1, 4) fun q25 s26 h27 => nm (pR h27 o 9 (some q25)) fun h29 => alc s26 h29 (1, 4) fun q30 s31 h32 => nm (pR h32 o 10 (some q30)) fun h34 => alc s31 h34 (1, 4) fun q35 s36 h37 => nm (pR h37 o 11 (some q35)) fun h39 => alc s36 h39 (1, 8) fun q40 s41 h42 => nm (pR h42 o 12 (some q40)) fun h44 => alc s41 h44 (1, 8) fun q45 s46 h47 => nm (pR h47 o 13 (some q45)) fun h49 => alc s46 h49 (1, 8) fun q50 s51 h52 => nm (pR h52 o 14 (some q50)) fun h54 => alc s51 h54 (1, 8) fun q55 s56 h57 => nm (pR h57 o 16 (some q55)) fun h59 => alc s56 h59 (1, 8) fun q60 s61 h62 => nm (pR h62 o 17 (some q60)) fun h64 => alc s61 h64 (1, 8) fun q65 s66 h67 => nm (pR h67 o 18 (some q65)) fun h69 => alc s66 h69 (1, 12) fun q70 s71 h72 => nm (pR h72 o 24 (some q70)) fun h74 => alc s71 h74 (1, 24) fun q75 s76 h77 => nm (pR h77 o 25 (some q75)) fun h79 => alc s76 h79 (1, 4) fun q80 s81 h82 => nm (pR h82 o 26 (some q80)) fun h84 => alc s81 h84 (1, 4) fun q85 s86 h87 => nm (pR h87 o 27 (some q85)) fun h89 => alc s86 h89 (1, 4) fun q90 s91 h92 => nm (pR h92 o 28 (some q90)) fun h94 => alc s91 h94 (1, 8) fun q95 s96 h97 => nm (pR h97 o 30 (some q95)) fun h99 => alc s96 h99 (1, 8) fun q100 s101 h102 => nm (pR h102 o 31 (some q100)) fun h104 => alc s101 h104 (1, 8) fun q105 s106 h107 => nm (pR h107 o 32 (some q105)) fun h109 => some (s106, h109)))))
set_option maxHeartbeats 4000000 in
set_option maxRecDepth 100000 in
theorem c_X4_init (E : Ev) (o : Nat) (sh : Sh) (eo : isO sh o 4 = true) (h : Hp) {sh' : Sh} {h' : Hp} (e : F_X4_init o sh h = some (sh', h')) : CtI E yX4_init cX4_init 1 1 9 57 [.ref (E.2.2.2 + o)] sh h sh' h' := by
  refine CtI.ofG e (by decide) rfl (Nat.le_of_ble_eq_true rfl) [some (.ref (E.2.2.2 + o))] rfl (fun X C => ?_)
  unfold F_X4_init
  refine k_aload_n (i := 0) C dX4_init_0 rfl rfl ?_
  refine k_obj C ⟨caw_0, caw_1, caw_2⟩ (by decide) (Nat.le_of_ble_eq_true rfl) dX4_init_1 ?_
  refine k_aload_n (i := 0) C dX4_init_4 rfl rfl ?_
  refine k_iconst (v := 4) C dX4_init_5 (by decide) ?_
  refine k_newa (N := 4) C caw_3 (by decide) (by decide) (by decide) dX4_init_6 (by decide) (by decide) (fun q1 s2 h3 hu4 => ?_)
  have eo := hu4 _ _ eo
  refine k_putR C f_X4_9 fo_X4_4_0 eo dX4_init_8 (fun h5 => ?_)
  refine k_aload_n (i := 0) C dX4_init_11 rfl rfl ?_
  refine k_bipush (v := -9) C dX4_init_12 (by decide) ?_
  refine k_putI C f_X4_15 eo dX4_init_14 (fun h6 => ?_)
  refine k_aload_n (i := 0) C dX4_init_17 rfl rfl ?_
  refine k_iconst (v := 4) C dX4_init_18 (by decide) ?_
  refine k_bipush (v := 9) C dX4_init_19 (by decide) ?_
  refine k_mna (N := 4) (K := 9) C caw_4 caw_3 (by decide) (by decide) (by decide) (by decide) (by decide) (by decide) dX4_init_21 (by decide) (by decide) (fun q7 s8 h9 hu10 => ?_)
  have eo := hu10 _ _ eo
  refine k_putR C f_X4_21 fo_X4_4_2 eo dX4_init_25 (fun h11 => ?_)
  refine k_aload_n (i := 0) C dX4_init_28 rfl rfl ?_
  refine k_iconst (v := 4) C dX4_init_29 (by decide) ?_
  refine k_newa (N := 4) C caw_3 (by decide) (by decide) (by decide) dX4_init_30 (by decide) (by decide) (fun q12 s13 h14 hu15 => ?_)
  have eo := hu15 _ _ eo
  refine k_putR C f_X4_24 fo_X4_4_3 eo dX4_init_32 (fun h16 => ?_)
  refine k_aload_n (i := 0) C dX4_init_35 rfl rfl ?_
  refine k_iconst (v := 5) C dX4_init_36 (by decide) ?_
  refine k_newa (N := 5) C caw_3 (by decide) (by decide) (by decide) dX4_init_37 (by decide) (by decide) (fun q17 s18 h19 hu20 => ?_)
  have eo := hu20 _ _ eo
  refine k_putR C f_X4_27 fo_X4_4_4 eo dX4_init_39 (fun h21 => ?_)
  refine k_aload_n (i := 0) C dX4_init_42 rfl rfl ?_
  refine k_iconst (v := 4) C dX4_init_43 (by decide) ?_
  refine k_newa (N := 4) C caw_3 (by decide) (by decide) (by decide) dX4_init_44 (by decide) (by decide) (fun q22 s23 h24 hu25 => ?_)
  have eo := hu25 _ _ eo
  refine k_putR C f_X4_30 fo_X4_4_5 eo dX4_init_46 (fun h26 => ?_)
  refine k_aload_n (i := 0) C dX4_init_49 rfl rfl ?_
  refine k_iconst (v := 0) C dX4_init_50 (by decide) ?_
  refine k_putI C f_X4_33 eo dX4_init_51 (fun h27 => ?_)
  refine k_aload_n (i := 0) C dX4_init_54 rfl rfl ?_
  refine k_iconst (v := 0) C dX4_init_55 (by decide) ?_
  refine k_putI C f_X4_36 eo dX4_init_56 (fun h28 => ?_)
  exact k_vret C (by decide) (by decide) dX4_init_59
set_option maxHeartbeats 4000000 in
set_option maxRecDepth 100000 in
theorem c_X2_init (E : Ev) (o : Nat) (sh : Sh) (eo : isO sh o 2 = true) (h : Hp) {sh' : Sh} {h' : Hp} (e : F_X2_init o sh h = some (sh', h')) : CtI E yX2_init cX2_init 1 1 7 32 [.ref (E.2.2.2 + o)] sh h sh' h' := by
  refine CtI.ofG e (by decide) rfl (Nat.le_of_ble_eq_true rfl) [some (.ref (E.2.2.2 + o))] rfl (fun X C => ?_)
  unfold F_X2_init
  refine k_aload_n (i := 0) C dX2_init_0 rfl rfl ?_
  refine k_obj C ⟨caw_5, caw_1, caw_2⟩ (by decide) (Nat.le_of_ble_eq_true rfl) dX2_init_1 ?_
  refine k_aload_n (i := 0) C dX2_init_4 rfl rfl ?_
  refine k_iconst (v := 4) C dX2_init_5 (by decide) ?_
  refine k_newa (N := 4) C caw_3 (by decide) (by decide) (by decide) dX2_init_6 (by decide) (by decide) (fun q1 s2 h3 hu4 => ?_)
  have eo := hu4 _ _ eo
  refine k_putR C f_X2_9 fo_X2_2_0 eo dX2_init_8 (fun h5 => ?_)
  refine k_aload_n (i := 0) C dX2_init_11 rfl rfl ?_
  refine k_bipush (v := -9) C dX2_init_12 (by decide) ?_
  refine k_putI C f_X2_15 eo dX2_init_14 (fun h6 => ?_)
  refine k_aload_n (i := 0) C dX2_init_17 rfl rfl ?_
  refine k_iconst (v := 4) C dX2_init_18 (by decide) ?_
  refine k_iconst (v := 5) C dX2_init_19 (by decide) ?_
  refine k_mna (N := 4) (K := 5) C caw_6 caw_3 (by decide) (by decide) (by decide) (by decide) (by decide) (by decide) dX2_init_20 (by decide) (by decide) (fun q7 s8 h9 hu10 => ?_)
  have eo := hu10 _ _ eo
  refine k_putR C f_X2_21 fo_X2_2_2 eo dX2_init_24 (fun h11 => ?_)
  refine k_aload_n (i := 0) C dX2_init_27 rfl rfl ?_
  refine k_iconst (v := 4) C dX2_init_28 (by decide) ?_
  refine k_newa (N := 4) C caw_3 (by decide) (by decide) (by decide) dX2_init_29 (by decide) (by decide) (fun q12 s13 h14 hu15 => ?_)
  have eo := hu15 _ _ eo
  refine k_putR C f_X2_24 fo_X2_2_3 eo dX2_init_31 (fun h16 => ?_)
  refine k_aload_n (i := 0) C dX2_init_34 rfl rfl ?_
  refine k_iconst (v := 0) C dX2_init_35 (by decide) ?_
  refine k_putI C f_X2_27 eo dX2_init_36 (fun h17 => ?_)
  refine k_aload_n (i := 0) C dX2_init_39 rfl rfl ?_
  refine k_iconst (v := 0) C dX2_init_40 (by decide) ?_
  refine k_putI C f_X2_30 eo dX2_init_41 (fun h18 => ?_)
  exact k_vret C (by decide) (by decide) dX2_init_44
set_option maxHeartbeats 4000000 in
set_option maxRecDepth 100000 in
theorem c_X5_init (E : Ev) (o : Nat) (sh : Sh) (eo : isO sh o 5 = true) (h : Hp) {sh' : Sh} {h' : Hp} (e : F_X5_init o sh h = some (sh', h')) : CtI E yX5_init cX5_init 1 1 2 8 [.ref (E.2.2.2 + o)] sh h sh' h' := by
  refine CtI.ofG e (by decide) rfl (Nat.le_of_ble_eq_true rfl) [some (.ref (E.2.2.2 + o))] rfl (fun X C => ?_)
  unfold F_X5_init
  refine k_aload_n (i := 0) C dX5_init_0 rfl rfl ?_
  refine k_obj C ⟨caw_7, caw_1, caw_2⟩ (by decide) (Nat.le_of_ble_eq_true rfl) dX5_init_1 ?_
  refine k_aload_n (i := 0) C dX5_init_4 rfl rfl ?_
  refine k_iconst (v := 4) C dX5_init_5 (by decide) ?_
  refine k_newa (N := 4) C caw_3 (by decide) (by decide) (by decide) dX5_init_6 (by decide) (by decide) (fun q1 s2 h3 hu4 => ?_)
  have eo := hu4 _ _ eo
  refine k_putR C f_X5_9 fo_X5_5_0 eo dX5_init_8 (fun h5 => ?_)
  refine k_aload_n (i := 0) C dX5_init_11 rfl rfl ?_
  refine k_iconst (v := 4) C dX5_init_12 (by decide) ?_
  refine k_newa (N := 4) C caw_3 (by decide) (by decide) (by decide) dX5_init_13 (by decide) (by decide) (fun q6 s7 h8 hu9 => ?_)
  have eo := hu9 _ _ eo
  refine k_putR C f_X5_15 fo_X5_5_1 eo dX5_init_15 (fun h10 => ?_)
  refine k_aload_n (i := 0) C dX5_init_18 rfl rfl ?_
  refine k_iconst (v := 0) C dX5_init_19 (by decide) ?_
  refine k_putI C f_X5_18 eo dX5_init_20 (fun h11 => ?_)
  refine k_aload_n (i := 0) C dX5_init_23 rfl rfl ?_
  refine k_iconst (v := 1) C dX5_init_24 (by decide) ?_
  refine k_putI C f_X5_22 eo dX5_init_25 (fun h12 => ?_)
  exact k_vret C (by decide) (by decide) dX5_init_28
set_option maxHeartbeats 4000000 in
set_option maxRecDepth 100000 in
theorem c_X3_init (E : Ev) (o : Nat) (sh : Sh) (eo : isO sh o 3 = true) (h : Hp) {sh' : Sh} {h' : Hp} (e : F_X3_init o sh h = some (sh', h')) : CtI E yX3_init cX3_init 1 1 3 24 [.ref (E.2.2.2 + o)] sh h sh' h' := by
  refine CtI.ofG e (by decide) rfl (Nat.le_of_ble_eq_true rfl) [some (.ref (E.2.2.2 + o))] rfl (fun X C => ?_)
  unfold F_X3_init
  refine k_aload_n (i := 0) C dX3_init_0 rfl rfl ?_
  refine k_obj C ⟨caw_8, caw_1, caw_2⟩ (by decide) (Nat.le_of_ble_eq_true rfl) dX3_init_1 ?_
  refine k_aload_n (i := 0) C dX3_init_4 rfl rfl ?_
  refine k_bipush (v := 8) C dX3_init_5 (by decide) ?_
  refine k_newa (N := 8) C caw_3 (by decide) (by decide) (by decide) dX3_init_7 (by decide) (by decide) (fun q1 s2 h3 hu4 => ?_)
  have eo := hu4 _ _ eo
  refine k_putR C f_X3_9 fo_X3_3_0 eo dX3_init_9 (fun h5 => ?_)
  refine k_aload_n (i := 0) C dX3_init_12 rfl rfl ?_
  refine k_bipush (v := 8) C dX3_init_13 (by decide) ?_
  refine k_newa (N := 8) C caw_3 (by decide) (by decide) (by decide) dX3_init_15 (by decide) (by decide) (fun q6 s7 h8 hu9 => ?_)
  have eo := hu9 _ _ eo
  refine k_putR C f_X3_15 fo_X3_3_1 eo dX3_init_17 (fun h10 => ?_)
  refine k_aload_n (i := 0) C dX3_init_20 rfl rfl ?_
  refine k_bipush (v := 8) C dX3_init_21 (by decide) ?_
  refine k_newa (N := 8) C caw_3 (by decide) (by decide) (by decide) dX3_init_23 (by decide) (by decide) (fun q11 s12 h13 hu14 => ?_)
  have eo := hu14 _ _ eo
  refine k_putR C f_X3_18 fo_X3_3_2 eo dX3_init_25 (fun h15 => ?_)
  refine k_aload_n (i := 0) C dX3_init_28 rfl rfl ?_
  refine k_iconst (v := 0) C dX3_init_29 (by decide) ?_
  refine k_putI C f_X3_21 eo dX3_init_30 (fun h16 => ?_)
  exact k_vret C (by decide) (by decide) dX3_init_33
set_option maxHeartbeats 4000000 in
set_option maxRecDepth 100000 in
theorem c_X0_init (E : Ev) (o : Nat) (sh : Sh) (eo : isO sh o 0 = true) (h : Hp) {sh' : Sh} {h' : Hp} (e : F_X0_init o sh h = some (sh', h')) : CtI E yX0_init cX0_init 1 2 21 136 [.ref (E.2.2.2 + o)] sh h sh' h' := by
  refine CtI.ofG e (by decide) rfl (Nat.le_of_ble_eq_true rfl) [some (.ref (E.2.2.2 + o))] rfl (fun X C => ?_)
  unfold F_X0_init
  refine k_aload_n (i := 0) C dX0_init_0 rfl rfl ?_
  refine k_obj C ⟨caw_9, caw_1, caw_2⟩ (by decide) (Nat.le_of_ble_eq_true rfl) dX0_init_1 ?_
  refine k_aload_n (i := 0) C dX0_init_4 rfl rfl ?_
  refine k_iconst (v := 0) C dX0_init_5 (by decide) ?_
  refine k_putI C f_X0_9 eo dX0_init_6 (fun h1 => ?_)
  refine k_aload_n (i := 0) C dX0_init_9 rfl rfl ?_
  refine k_iconst (v := 0) C dX0_init_10 (by decide) ?_
  refine k_putI C f_X0_15 eo dX0_init_11 (fun h2 => ?_)
  refine k_aload_n (i := 0) C dX0_init_14 rfl rfl ?_
  refine k_iconst (v := 0) C dX0_init_15 (by decide) ?_
  refine k_putI C f_X0_18 eo dX0_init_16 (fun h3 => ?_)
  refine k_aload_n (i := 0) C dX0_init_19 rfl rfl ?_
  refine k_iconst (v := 4) C dX0_init_20 (by decide) ?_
  refine k_newa (N := 4) C caw_3 (by decide) (by decide) (by decide) dX0_init_21 (by decide) (by decide) (fun q4 s5 h6 hu7 => ?_)
  have eo := hu7 _ _ eo
  refine k_putR C f_X0_21 fo_X0_0_3 eo dX0_init_23 (fun h8 => ?_)
  refine k_aload_n (i := 0) C dX0_init_26 rfl rfl ?_
  refine k_iconst (v := 4) C dX0_init_27 (by decide) ?_
  refine k_newa (N := 4) C caw_3 (by decide) (by decide) (by decide) dX0_init_28 (by decide) (by decide) (fun q9 s10 h11 hu12 => ?_)
  have eo := hu12 _ _ eo
  refine k_putR C f_X0_25 fo_X0_0_4 eo dX0_init_30 (fun h13 => ?_)
  refine k_aload_n (i := 0) C dX0_init_33 rfl rfl ?_
  refine k_iconst (v := 4) C dX0_init_34 (by decide) ?_
  refine k_newa (N := 4) C caw_3 (by decide) (by decide) (by decide) dX0_init_35 (by decide) (by decide) (fun q14 s15 h16 hu17 => ?_)
  have eo := hu17 _ _ eo
  refine k_putR C f_X0_28 fo_X0_0_5 eo dX0_init_37 (fun h18 => ?_)
  refine k_aload_n (i := 0) C dX0_init_40 rfl rfl ?_
  refine k_iconst (v := 4) C dX0_init_41 (by decide) ?_
  refine k_newa (N := 4) C caw_3 (by decide) (by decide) (by decide) dX0_init_42 (by decide) (by decide) (fun q19 s20 h21 hu22 => ?_)
  have eo := hu22 _ _ eo
  refine k_putR C f_X0_31 fo_X0_0_6 eo dX0_init_44 (fun h23 => ?_)
  refine k_aload_n (i := 0) C dX0_init_47 rfl rfl ?_
  refine k_bipush (v := 8) C dX0_init_48 (by decide) ?_
  refine k_newa (N := 8) C caw_3 (by decide) (by decide) (by decide) dX0_init_50 (by decide) (by decide) (fun q24 s25 h26 hu27 => ?_)
  have eo := hu27 _ _ eo
  refine k_putR C f_X0_34 fo_X0_0_7 eo dX0_init_52 (fun h28 => ?_)
  refine k_aload_n (i := 0) C dX0_init_55 rfl rfl ?_
  refine k_bipush (v := 8) C dX0_init_56 (by decide) ?_
  refine k_newa (N := 8) C caw_3 (by decide) (by decide) (by decide) dX0_init_58 (by decide) (by decide) (fun q29 s30 h31 hu32 => ?_)
  have eo := hu32 _ _ eo
  refine k_putR C f_X0_37 fo_X0_0_8 eo dX0_init_60 (fun h33 => ?_)
  refine k_aload_n (i := 0) C dX0_init_63 rfl rfl ?_
  refine k_bipush (v := 8) C dX0_init_64 (by decide) ?_
  refine k_newa (N := 8) C caw_3 (by decide) (by decide) (by decide) dX0_init_66 (by decide) (by decide) (fun q34 s35 h36 hu37 => ?_)
  have eo := hu37 _ _ eo
  refine k_putR C f_X0_40 fo_X0_0_9 eo dX0_init_68 (fun h38 => ?_)
  refine k_aload_n (i := 0) C dX0_init_71 rfl rfl ?_
  refine k_new C gn_X0_43 dX0_init_72 (by decide) (by decide) (fun q39 s40 h41 eq39 hu42 => ?_)
  have eo := hu42 _ _ eo
  refine k_dup C dX0_init_75 rfl ?_
  refine k_init C cn_X0_45 (fun sh2 h2 e => c_X3_init E q39 s40 eq39 h41 e) (by decide) (by decide) (Nat.le_of_ble_eq_true rfl) (by decide) (by decide) dX0_init_76 (fun s43 h44 hp45 => ?_)
  have eo := (fun a c z => isO_ext (q := a) (ci := c) hp45 z) _ _ eo
  have eq39 := (fun a c z => isO_ext (q := a) (ci := c) hp45 z) _ _ eq39
  refine k_putR C f_X0_46 fo_X0_0_10 eo dX0_init_79 (fun h46 => ?_)
  refine k_aload_n (i := 0) C dX0_init_82 rfl rfl ?_
  refine k_new C gn_X0_43 dX0_init_83 (by decide) (by decide) (fun q47 s48 h49 eq47 hu50 => ?_)
  have eo := hu50 _ _ eo
  have eq39 := hu50 _ _ eq39
  refine k_dup C dX0_init_86 rfl ?_
  refine k_init C cn_X0_45 (fun sh2 h2 e => c_X3_init E q47 s48 eq47 h49 e) (by decide) (by decide) (Nat.le_of_ble_eq_true rfl) (by decide) (by decide) dX0_init_87 (fun s51 h52 hp53 => ?_)
  have eo := (fun a c z => isO_ext (q := a) (ci := c) hp53 z) _ _ eo
  have eq39 := (fun a c z => isO_ext (q := a) (ci := c) hp53 z) _ _ eq39
  have eq47 := (fun a c z => isO_ext (q := a) (ci := c) hp53 z) _ _ eq47
  refine k_putR C f_X0_50 fo_X0_0_11 eo dX0_init_90 (fun h54 => ?_)
  refine k_aload_n (i := 0) C dX0_init_93 rfl rfl ?_
  refine k_iconst (v := 4) C dX0_init_94 (by decide) ?_
  refine k_bipush (v := 8) C dX0_init_95 (by decide) ?_
  refine k_mna (N := 4) (K := 8) C caw_10 caw_3 (by decide) (by decide) (by decide) (by decide) (by decide) (by decide) dX0_init_97 (by decide) (by decide) (fun q55 s56 h57 hu58 => ?_)
  have eo := hu58 _ _ eo
  have eq39 := hu58 _ _ eq39
  have eq47 := hu58 _ _ eq47
  refine k_putR C f_X0_55 fo_X0_0_12 eo dX0_init_101 (fun h59 => ?_)
  refine k_aload_n (i := 0) C dX0_init_104 rfl rfl ?_
  refine k_iconst (v := 4) C dX0_init_105 (by decide) ?_
  refine k_newa (N := 4) C caw_3 (by decide) (by decide) (by decide) dX0_init_106 (by decide) (by decide) (fun q60 s61 h62 hu63 => ?_)
  have eo := hu63 _ _ eo
  have eq39 := hu63 _ _ eq39
  have eq47 := hu63 _ _ eq47
  refine k_putR C f_X0_58 fo_X0_0_13 eo dX0_init_108 (fun h64 => ?_)
  exact k_vret C (by decide) (by decide) dX0_init_111
set_option maxHeartbeats 4000000 in
set_option maxRecDepth 100000 in
theorem c_X1_init (E : Ev) (o : Nat) (sh : Sh) (eo : isO sh o 1 = true) (h : Hp) {sh' : Sh} {h' : Hp} (e : F_X1_init o sh h = some (sh', h')) : CtI E yX1_init cX1_init 1 1 1 60 [.ref (E.2.2.2 + o)] sh h sh' h' := by
  refine CtI.ofG e (by decide) rfl (Nat.le_of_ble_eq_true rfl) [some (.ref (E.2.2.2 + o))] rfl (fun X C => ?_)
  unfold F_X1_init
  refine k_aload_n (i := 0) C dX1_init_0 rfl rfl ?_
  refine k_obj C ⟨caw_11, caw_1, caw_2⟩ (by decide) (Nat.le_of_ble_eq_true rfl) dX1_init_1 ?_
  refine k_aload_n (i := 0) C dX1_init_4 rfl rfl ?_
  refine k_bipush (v := 60) C dX1_init_5 (by decide) ?_
  refine k_newa (N := 60) C caw_3 (by decide) (by decide) (by decide) dX1_init_7 (by decide) (by decide) (fun q1 s2 h3 hu4 => ?_)
  have eo := hu4 _ _ eo
  refine k_putR C f_X1_9 fo_X1_1_0 eo dX1_init_9 (fun h5 => ?_)
  refine k_aload_n (i := 0) C dX1_init_12 rfl rfl ?_
  refine k_iconst (v := 0) C dX1_init_13 (by decide) ?_
  refine k_putI C f_X1_15 eo dX1_init_14 (fun h6 => ?_)
  refine k_aload_n (i := 0) C dX1_init_17 rfl rfl ?_
  refine k_bipush (v := -9) C dX1_init_18 (by decide) ?_
  refine k_putI C f_X1_19 eo dX1_init_20 (fun h7 => ?_)
  exact k_vret C (by decide) (by decide) dX1_init_23
set_option maxHeartbeats 4000000 in
set_option maxRecDepth 100000 in
theorem c_X6_init (E : Ev) (o : Nat) (sh : Sh) (eo : isO sh o 6 = true) (h : Hp) {sh' : Sh} {h' : Hp} (e : F_X6_init o sh h = some (sh', h')) : CtI E yX6_init cX6_init 2 3 74 671 [.ref (E.2.2.2 + o)] sh h sh' h' := by
  refine CtI.ofG e (by decide) rfl (Nat.le_of_ble_eq_true rfl) [some (.ref (E.2.2.2 + o)), none] rfl (fun X C => ?_)
  unfold F_X6_init
  refine k_aload_n (i := 0) C dX6_init_0 rfl rfl ?_
  refine k_obj C ⟨caw_12, caw_1, caw_2⟩ (by decide) (Nat.le_of_ble_eq_true rfl) dX6_init_1 ?_
  refine k_aload_n (i := 0) C dX6_init_4 rfl rfl ?_
  refine k_iconst (v := 4) C dX6_init_5 (by decide) ?_
  refine k_anew (N := 4) C caw_13 (by decide) (by decide) (by decide) dX6_init_6 (by decide) (by decide) (fun q1 s2 h3 hu4 => ?_)
  have eo := hu4 _ _ eo
  refine k_putR C f_X6_13 fo_X6_6_0 eo dX6_init_9 (fun h5 => ?_)
  refine k_aload_n (i := 0) C dX6_init_12 rfl rfl ?_
  refine k_new C gn_X6_17 dX6_init_13 (by decide) (by decide) (fun q6 s7 h8 eq6 hu9 => ?_)
  have eo := hu9 _ _ eo
  refine k_dup C dX6_init_16 rfl ?_
  refine k_init C cn_X6_19 (fun sh2 h2 e => c_X4_init E q6 s7 eq6 h8 e) (by decide) (by decide) (Nat.le_of_ble_eq_true rfl) (by decide) (by decide) dX6_init_17 (fun s10 h11 hp12 => ?_)
  have eo := (fun a c z => isO_ext (q := a) (ci := c) hp12 z) _ _ eo
  have eq6 := (fun a c z => isO_ext (q := a) (ci := c) hp12 z) _ _ eq6
  refine k_putR C f_X6_20 fo_X6_6_1 eo dX6_init_20 (fun h13 => ?_)
  refine k_aload_n (i := 0) C dX6_init_23 rfl rfl ?_
  refine k_new C gn_X6_24 dX6_init_24 (by decide) (by decide) (fun q14 s15 h16 eq14 hu17 => ?_)
  have eo := hu17 _ _ eo
  have eq6 := hu17 _ _ eq6
  refine k_dup C dX6_init_27 rfl ?_
  refine k_init C cn_X6_26 (fun sh2 h2 e => c_X2_init E q14 s15 eq14 h16 e) (by decide) (by decide) (Nat.le_of_ble_eq_true rfl) (by decide) (by decide) dX6_init_28 (fun s18 h19 hp20 => ?_)
  have eo := (fun a c z => isO_ext (q := a) (ci := c) hp20 z) _ _ eo
  have eq6 := (fun a c z => isO_ext (q := a) (ci := c) hp20 z) _ _ eq6
  have eq14 := (fun a c z => isO_ext (q := a) (ci := c) hp20 z) _ _ eq14
  refine k_putR C f_X6_27 fo_X6_6_2 eo dX6_init_31 (fun h21 => ?_)
  refine k_aload_n (i := 0) C dX6_init_34 rfl rfl ?_
  refine k_new C gn_X6_31 dX6_init_35 (by decide) (by decide) (fun q22 s23 h24 eq22 hu25 => ?_)
  have eo := hu25 _ _ eo
  have eq6 := hu25 _ _ eq6
  have eq14 := hu25 _ _ eq14
  refine k_dup C dX6_init_38 rfl ?_
  refine k_init C cn_X6_33 (fun sh2 h2 e => c_X5_init E q22 s23 eq22 h24 e) (by decide) (by decide) (Nat.le_of_ble_eq_true rfl) (by decide) (by decide) dX6_init_39 (fun s26 h27 hp28 => ?_)
  have eo := (fun a c z => isO_ext (q := a) (ci := c) hp28 z) _ _ eo
  have eq6 := (fun a c z => isO_ext (q := a) (ci := c) hp28 z) _ _ eq6
  have eq14 := (fun a c z => isO_ext (q := a) (ci := c) hp28 z) _ _ eq14
  have eq22 := (fun a c z => isO_ext (q := a) (ci := c) hp28 z) _ _ eq22
  refine k_putR C f_X6_34 fo_X6_6_3 eo dX6_init_42 (fun h29 => ?_)
  refine k_aload_n (i := 0) C dX6_init_45 rfl rfl ?_
  refine k_new C gn_X6_38 dX6_init_46 (by decide) (by decide) (fun q30 s31 h32 eq30 hu33 => ?_)
  have eo := hu33 _ _ eo
  have eq6 := hu33 _ _ eq6
  have eq14 := hu33 _ _ eq14
  have eq22 := hu33 _ _ eq22
  refine k_dup C dX6_init_49 rfl ?_
  refine k_init C cn_X6_40 (fun sh2 h2 e => c_X0_init E q30 s31 eq30 h32 e) (by decide) (by decide) (Nat.le_of_ble_eq_true rfl) (by decide) (by decide) dX6_init_50 (fun s34 h35 hp36 => ?_)
  have eo := (fun a c z => isO_ext (q := a) (ci := c) hp36 z) _ _ eo
  have eq6 := (fun a c z => isO_ext (q := a) (ci := c) hp36 z) _ _ eq6
  have eq14 := (fun a c z => isO_ext (q := a) (ci := c) hp36 z) _ _ eq14
  have eq22 := (fun a c z => isO_ext (q := a) (ci := c) hp36 z) _ _ eq22
  have eq30 := (fun a c z => isO_ext (q := a) (ci := c) hp36 z) _ _ eq30
  refine k_putR C f_X6_41 fo_X6_6_4 eo dX6_init_53 (fun h37 => ?_)
  refine k_aload_n (i := 0) C dX6_init_56 rfl rfl ?_
  refine k_new C gn_X6_38 dX6_init_57 (by decide) (by decide) (fun q38 s39 h40 eq38 hu41 => ?_)
  have eo := hu41 _ _ eo
  have eq6 := hu41 _ _ eq6
  have eq14 := hu41 _ _ eq14
  have eq22 := hu41 _ _ eq22
  have eq30 := hu41 _ _ eq30
  refine k_dup C dX6_init_60 rfl ?_
  refine k_init C cn_X6_40 (fun sh2 h2 e => c_X0_init E q38 s39 eq38 h40 e) (by decide) (by decide) (Nat.le_of_ble_eq_true rfl) (by decide) (by decide) dX6_init_61 (fun s42 h43 hp44 => ?_)
  have eo := (fun a c z => isO_ext (q := a) (ci := c) hp44 z) _ _ eo
  have eq6 := (fun a c z => isO_ext (q := a) (ci := c) hp44 z) _ _ eq6
  have eq14 := (fun a c z => isO_ext (q := a) (ci := c) hp44 z) _ _ eq14
  have eq22 := (fun a c z => isO_ext (q := a) (ci := c) hp44 z) _ _ eq22
  have eq30 := (fun a c z => isO_ext (q := a) (ci := c) hp44 z) _ _ eq30
  have eq38 := (fun a c z => isO_ext (q := a) (ci := c) hp44 z) _ _ eq38
  refine k_putR C f_X6_45 fo_X6_6_5 eo dX6_init_64 (fun h45 => ?_)
  refine k_aload_n (i := 0) C dX6_init_67 rfl rfl ?_
  refine k_iconst (v := 0) C dX6_init_68 (by decide) ?_
  refine k_putI C f_X6_48 eo dX6_init_69 (fun h46 => ?_)
  refine k_aload_n (i := 0) C dX6_init_72 rfl rfl ?_
  refine k_iconst (v := 0) C dX6_init_73 (by decide) ?_
  refine k_putI C f_X6_52 eo dX6_init_74 (fun h47 => ?_)
  refine k_iconst (v := 0) C dX6_init_77 (by decide) ?_
  refine k_istore_n (i := 1) C [some (.ref (E.2.2.2 + o)), some (.int (0 : Int32))] dX6_init_78 rfl (by decide) rfl rfl ?_
  refine k_iload_n (i := 1) C dX6_init_79 rfl rfl ?_
  refine k_iconst (v := 4) C dX6_init_80 (by decide) ?_
  refine k_geF C 103 dX6_init_81 (by decide) (by decide) ?_
  refine k_aload_n (i := 0) C dX6_init_84 rfl rfl ?_
  refine k_getA C f_X6_13 eo dX6_init_85 (fun q48 => ?_)
  refine k_iload_n (i := 1) C dX6_init_88 rfl rfl ?_
  refine k_new C gn_X6_11 dX6_init_89 (by decide) (by decide) (fun q49 s50 h51 eq49 hu52 => ?_)
  have eo := hu52 _ _ eo
  have eq6 := hu52 _ _ eq6
  have eq14 := hu52 _ _ eq14
  have eq22 := hu52 _ _ eq22
  have eq30 := hu52 _ _ eq30
  have eq38 := hu52 _ _ eq38
  refine k_dup C dX6_init_92 rfl ?_
  refine k_init C cn_X6_55 (fun sh2 h2 e => c_X1_init E q49 s50 eq49 h51 e) (by decide) (by decide) (Nat.le_of_ble_eq_true rfl) (by decide) (by decide) dX6_init_93 (fun s53 h54 hp55 => ?_)
  have eo := (fun a c z => isO_ext (q := a) (ci := c) hp55 z) _ _ eo
  have eq6 := (fun a c z => isO_ext (q := a) (ci := c) hp55 z) _ _ eq6
  have eq14 := (fun a c z => isO_ext (q := a) (ci := c) hp55 z) _ _ eq14
  have eq22 := (fun a c z => isO_ext (q := a) (ci := c) hp55 z) _ _ eq22
  have eq30 := (fun a c z => isO_ext (q := a) (ci := c) hp55 z) _ _ eq30
  have eq38 := (fun a c z => isO_ext (q := a) (ci := c) hp55 z) _ _ eq38
  have eq49 := (fun a c z => isO_ext (q := a) (ci := c) hp55 z) _ _ eq49
  refine k_aast C eq49 dX6_init_96 (fun h56 => ?_)
  refine k_iinc (i := 1) C [some (.ref (E.2.2.2 + o)), some (.int (1 : Int32))] dX6_init_97 rfl (by decide) (by decide) rfl rfl ?_
  refine k_goto C 79 dX6_init_100 (by decide) ?_
  refine k_iload_n (i := 1) C dX6_init_79 rfl rfl ?_
  refine k_iconst (v := 4) C dX6_init_80 (by decide) ?_
  refine k_geF C 103 dX6_init_81 (by decide) (by decide) ?_
  refine k_aload_n (i := 0) C dX6_init_84 rfl rfl ?_
  refine k_getA C f_X6_13 eo dX6_init_85 (fun q57 => ?_)
  refine k_iload_n (i := 1) C dX6_init_88 rfl rfl ?_
  refine k_new C gn_X6_11 dX6_init_89 (by decide) (by decide) (fun q58 s59 h60 eq58 hu61 => ?_)
  have eo := hu61 _ _ eo
  have eq6 := hu61 _ _ eq6
  have eq14 := hu61 _ _ eq14
  have eq22 := hu61 _ _ eq22
  have eq30 := hu61 _ _ eq30
  have eq38 := hu61 _ _ eq38
  have eq49 := hu61 _ _ eq49
  refine k_dup C dX6_init_92 rfl ?_
  refine k_init C cn_X6_55 (fun sh2 h2 e => c_X1_init E q58 s59 eq58 h60 e) (by decide) (by decide) (Nat.le_of_ble_eq_true rfl) (by decide) (by decide) dX6_init_93 (fun s62 h63 hp64 => ?_)
  have eo := (fun a c z => isO_ext (q := a) (ci := c) hp64 z) _ _ eo
  have eq6 := (fun a c z => isO_ext (q := a) (ci := c) hp64 z) _ _ eq6
  have eq14 := (fun a c z => isO_ext (q := a) (ci := c) hp64 z) _ _ eq14
  have eq22 := (fun a c z => isO_ext (q := a) (ci := c) hp64 z) _ _ eq22
  have eq30 := (fun a c z => isO_ext (q := a) (ci := c) hp64 z) _ _ eq30
  have eq38 := (fun a c z => isO_ext (q := a) (ci := c) hp64 z) _ _ eq38
  have eq49 := (fun a c z => isO_ext (q := a) (ci := c) hp64 z) _ _ eq49
  have eq58 := (fun a c z => isO_ext (q := a) (ci := c) hp64 z) _ _ eq58
  refine k_aast C eq58 dX6_init_96 (fun h65 => ?_)
  refine k_iinc (i := 1) C [some (.ref (E.2.2.2 + o)), some (.int (2 : Int32))] dX6_init_97 rfl (by decide) (by decide) rfl rfl ?_
  refine k_goto C 79 dX6_init_100 (by decide) ?_
  refine k_iload_n (i := 1) C dX6_init_79 rfl rfl ?_
  refine k_iconst (v := 4) C dX6_init_80 (by decide) ?_
  refine k_geF C 103 dX6_init_81 (by decide) (by decide) ?_
  refine k_aload_n (i := 0) C dX6_init_84 rfl rfl ?_
  refine k_getA C f_X6_13 eo dX6_init_85 (fun q66 => ?_)
  refine k_iload_n (i := 1) C dX6_init_88 rfl rfl ?_
  refine k_new C gn_X6_11 dX6_init_89 (by decide) (by decide) (fun q67 s68 h69 eq67 hu70 => ?_)
  have eo := hu70 _ _ eo
  have eq6 := hu70 _ _ eq6
  have eq14 := hu70 _ _ eq14
  have eq22 := hu70 _ _ eq22
  have eq30 := hu70 _ _ eq30
  have eq38 := hu70 _ _ eq38
  have eq49 := hu70 _ _ eq49
  have eq58 := hu70 _ _ eq58
  refine k_dup C dX6_init_92 rfl ?_
  refine k_init C cn_X6_55 (fun sh2 h2 e => c_X1_init E q67 s68 eq67 h69 e) (by decide) (by decide) (Nat.le_of_ble_eq_true rfl) (by decide) (by decide) dX6_init_93 (fun s71 h72 hp73 => ?_)
  have eo := (fun a c z => isO_ext (q := a) (ci := c) hp73 z) _ _ eo
  have eq6 := (fun a c z => isO_ext (q := a) (ci := c) hp73 z) _ _ eq6
  have eq14 := (fun a c z => isO_ext (q := a) (ci := c) hp73 z) _ _ eq14
  have eq22 := (fun a c z => isO_ext (q := a) (ci := c) hp73 z) _ _ eq22
  have eq30 := (fun a c z => isO_ext (q := a) (ci := c) hp73 z) _ _ eq30
  have eq38 := (fun a c z => isO_ext (q := a) (ci := c) hp73 z) _ _ eq38
  have eq49 := (fun a c z => isO_ext (q := a) (ci := c) hp73 z) _ _ eq49
  have eq58 := (fun a c z => isO_ext (q := a) (ci := c) hp73 z) _ _ eq58
  have eq67 := (fun a c z => isO_ext (q := a) (ci := c) hp73 z) _ _ eq67
  refine k_aast C eq67 dX6_init_96 (fun h74 => ?_)
  refine k_iinc (i := 1) C [some (.ref (E.2.2.2 + o)), some (.int (3 : Int32))] dX6_init_97 rfl (by decide) (by decide) rfl rfl ?_
  refine k_goto C 79 dX6_init_100 (by decide) ?_
  refine k_iload_n (i := 1) C dX6_init_79 rfl rfl ?_
  refine k_iconst (v := 4) C dX6_init_80 (by decide) ?_
  refine k_geF C 103 dX6_init_81 (by decide) (by decide) ?_
  refine k_aload_n (i := 0) C dX6_init_84 rfl rfl ?_
  refine k_getA C f_X6_13 eo dX6_init_85 (fun q75 => ?_)
  refine k_iload_n (i := 1) C dX6_init_88 rfl rfl ?_
  refine k_new C gn_X6_11 dX6_init_89 (by decide) (by decide) (fun q76 s77 h78 eq76 hu79 => ?_)
  have eo := hu79 _ _ eo
  have eq6 := hu79 _ _ eq6
  have eq14 := hu79 _ _ eq14
  have eq22 := hu79 _ _ eq22
  have eq30 := hu79 _ _ eq30
  have eq38 := hu79 _ _ eq38
  have eq49 := hu79 _ _ eq49
  have eq58 := hu79 _ _ eq58
  have eq67 := hu79 _ _ eq67
  refine k_dup C dX6_init_92 rfl ?_
  refine k_init C cn_X6_55 (fun sh2 h2 e => c_X1_init E q76 s77 eq76 h78 e) (by decide) (by decide) (Nat.le_of_ble_eq_true rfl) (by decide) (by decide) dX6_init_93 (fun s80 h81 hp82 => ?_)
  have eo := (fun a c z => isO_ext (q := a) (ci := c) hp82 z) _ _ eo
  have eq6 := (fun a c z => isO_ext (q := a) (ci := c) hp82 z) _ _ eq6
  have eq14 := (fun a c z => isO_ext (q := a) (ci := c) hp82 z) _ _ eq14
  have eq22 := (fun a c z => isO_ext (q := a) (ci := c) hp82 z) _ _ eq22
  have eq30 := (fun a c z => isO_ext (q := a) (ci := c) hp82 z) _ _ eq30
  have eq38 := (fun a c z => isO_ext (q := a) (ci := c) hp82 z) _ _ eq38
  have eq49 := (fun a c z => isO_ext (q := a) (ci := c) hp82 z) _ _ eq49
  have eq58 := (fun a c z => isO_ext (q := a) (ci := c) hp82 z) _ _ eq58
  have eq67 := (fun a c z => isO_ext (q := a) (ci := c) hp82 z) _ _ eq67
  have eq76 := (fun a c z => isO_ext (q := a) (ci := c) hp82 z) _ _ eq76
  refine k_aast C eq76 dX6_init_96 (fun h83 => ?_)
  refine k_iinc (i := 1) C [some (.ref (E.2.2.2 + o)), some (.int (4 : Int32))] dX6_init_97 rfl (by decide) (by decide) rfl rfl ?_
  refine k_goto C 79 dX6_init_100 (by decide) ?_
  refine k_iload_n (i := 1) C dX6_init_79 rfl rfl ?_
  refine k_iconst (v := 4) C dX6_init_80 (by decide) ?_
  refine k_geT C 103 dX6_init_81 (by decide) (by decide) ?_
  exact k_vret C (by decide) (by decide) dX6_init_103
set_option maxHeartbeats 4000000 in
set_option maxRecDepth 100000 in
theorem c_X7_init (E : Ev) (o : Nat) (sh : Sh) (eo : isO sh o 7 = true) (h : Hp) {sh' : Sh} {h' : Hp} (e : F_X7_init o sh h = some (sh', h')) : CtI E yX7_init cX7_init 1 1 21 384 [.ref (E.2.2.2 + o)] sh h sh' h' := by
  refine CtI.ofG e (by decide) rfl (Nat.le_of_ble_eq_true rfl) [some (.ref (E.2.2.2 + o))] rfl (fun X C => ?_)
  unfold F_X7_init
  refine k_aload_n (i := 0) C dX7_init_0 rfl rfl ?_
  refine k_obj C ⟨caw_14, caw_1, caw_2⟩ (by decide) (Nat.le_of_ble_eq_true rfl) dX7_init_1 ?_
  refine k_aload_n (i := 0) C dX7_init_4 rfl rfl ?_
  refine k_iconst (v := 4) C dX7_init_5 (by decide) ?_
  refine k_newa (N := 4) C caw_3 (by decide) (by decide) (by decide) dX7_init_6 (by decide) (by decide) (fun q1 s2 h3 hu4 => ?_)
  have eo := hu4 _ _ eo
  refine k_dup C dX7_init_8 rfl ?_
  refine k_iconst (v := 0) C dX7_init_9 (by decide) ?_
  refine k_bipush (v := -9) C dX7_init_10 (by decide) ?_
  refine k_iast C dX7_init_12 (fun h5 => ?_)
  refine k_dup C dX7_init_13 rfl ?_
  refine k_iconst (v := 1) C dX7_init_14 (by decide) ?_
  refine k_bipush (v := -9) C dX7_init_15 (by decide) ?_
  refine k_iast C dX7_init_17 (fun h6 => ?_)
  refine k_dup C dX7_init_18 rfl ?_
  refine k_iconst (v := 2) C dX7_init_19 (by decide) ?_
  refine k_bipush (v := -9) C dX7_init_20 (by decide) ?_
  refine k_iast C dX7_init_22 (fun h7 => ?_)
  refine k_dup C dX7_init_23 rfl ?_
  refine k_iconst (v := 3) C dX7_init_24 (by decide) ?_
  refine k_bipush (v := -9) C dX7_init_25 (by decide) ?_
  refine k_iast C dX7_init_27 (fun h8 => ?_)
  refine k_putR C f_X7_9 fo_X7_7_2 eo dX7_init_28 (fun h9 => ?_)
  refine k_aload_n (i := 0) C dX7_init_31 rfl rfl ?_
  refine k_iconst (v := 4) C dX7_init_32 (by decide) ?_
  refine k_newa (N := 4) C caw_3 (by decide) (by decide) (by decide) dX7_init_33 (by decide) (by decide) (fun q10 s11 h12 hu13 => ?_)
  have eo := hu13 _ _ eo
  refine k_putR C f_X7_13 fo_X7_7_3 eo dX7_init_35 (fun h14 => ?_)
  refine k_aload_n (i := 0) C dX7_init_38 rfl rfl ?_
  refine k_sipush (v := 240) C dX7_init_39 (by decide) ?_
  refine k_newa (N := 240) C caw_3 (by decide) (by decide) (by decide) dX7_init_42 (by decide) (by decide) (fun q15 s16 h17 hu18 => ?_)
  have eo := hu18 _ _ eo
  refine k_putR C f_X7_16 fo_X7_7_4 eo dX7_init_44 (fun h19 => ?_)
  refine k_aload_n (i := 0) C dX7_init_47 rfl rfl ?_
  refine k_iconst (v := 4) C dX7_init_48 (by decide) ?_
  refine k_newa (N := 4) C caw_3 (by decide) (by decide) (by decide) dX7_init_49 (by decide) (by decide) (fun q20 s21 h22 hu23 => ?_)
  have eo := hu23 _ _ eo
  refine k_putR C f_X7_19 fo_X7_7_8 eo dX7_init_51 (fun h24 => ?_)
  refine k_aload_n (i := 0) C dX7_init_54 rfl rfl ?_
  refine k_iconst (v := 4) C dX7_init_55 (by decide) ?_
  refine k_newa (N := 4) C caw_3 (by decide) (by decide) (by decide) dX7_init_56 (by decide) (by decide) (fun q25 s26 h27 hu28 => ?_)
  have eo := hu28 _ _ eo
  refine k_putR C f_X7_22 fo_X7_7_9 eo dX7_init_58 (fun h29 => ?_)
  refine k_aload_n (i := 0) C dX7_init_61 rfl rfl ?_
  refine k_iconst (v := 4) C dX7_init_62 (by decide) ?_
  refine k_newa (N := 4) C caw_3 (by decide) (by decide) (by decide) dX7_init_63 (by decide) (by decide) (fun q30 s31 h32 hu33 => ?_)
  have eo := hu33 _ _ eo
  refine k_putR C f_X7_25 fo_X7_7_10 eo dX7_init_65 (fun h34 => ?_)
  refine k_aload_n (i := 0) C dX7_init_68 rfl rfl ?_
  refine k_iconst (v := 4) C dX7_init_69 (by decide) ?_
  refine k_newa (N := 4) C caw_3 (by decide) (by decide) (by decide) dX7_init_70 (by decide) (by decide) (fun q35 s36 h37 hu38 => ?_)
  have eo := hu38 _ _ eo
  refine k_putR C f_X7_28 fo_X7_7_11 eo dX7_init_72 (fun h39 => ?_)
  refine k_aload_n (i := 0) C dX7_init_75 rfl rfl ?_
  refine k_bipush (v := 8) C dX7_init_76 (by decide) ?_
  refine k_newa (N := 8) C caw_3 (by decide) (by decide) (by decide) dX7_init_78 (by decide) (by decide) (fun q40 s41 h42 hu43 => ?_)
  have eo := hu43 _ _ eo
  refine k_putR C f_X7_31 fo_X7_7_12 eo dX7_init_80 (fun h44 => ?_)
  refine k_aload_n (i := 0) C dX7_init_83 rfl rfl ?_
  refine k_bipush (v := 8) C dX7_init_84 (by decide) ?_
  refine k_newa (N := 8) C caw_3 (by decide) (by decide) (by decide) dX7_init_86 (by decide) (by decide) (fun q45 s46 h47 hu48 => ?_)
  have eo := hu48 _ _ eo
  refine k_putR C f_X7_34 fo_X7_7_13 eo dX7_init_88 (fun h49 => ?_)
  refine k_aload_n (i := 0) C dX7_init_91 rfl rfl ?_
  refine k_bipush (v := 8) C dX7_init_92 (by decide) ?_
  refine k_newa (N := 8) C caw_3 (by decide) (by decide) (by decide) dX7_init_94 (by decide) (by decide) (fun q50 s51 h52 hu53 => ?_)
  have eo := hu53 _ _ eo
  refine k_putR C f_X7_37 fo_X7_7_14 eo dX7_init_96 (fun h54 => ?_)
  refine k_aload_n (i := 0) C dX7_init_99 rfl rfl ?_
  refine k_bipush (v := 8) C dX7_init_100 (by decide) ?_
  refine k_newa (N := 8) C caw_3 (by decide) (by decide) (by decide) dX7_init_102 (by decide) (by decide) (fun q55 s56 h57 hu58 => ?_)
  have eo := hu58 _ _ eo
  refine k_putR C f_X7_40 fo_X7_7_16 eo dX7_init_104 (fun h59 => ?_)
  refine k_aload_n (i := 0) C dX7_init_107 rfl rfl ?_
  refine k_bipush (v := 8) C dX7_init_108 (by decide) ?_
  refine k_newa (N := 8) C caw_3 (by decide) (by decide) (by decide) dX7_init_110 (by decide) (by decide) (fun q60 s61 h62 hu63 => ?_)
  have eo := hu63 _ _ eo
  refine k_putR C f_X7_43 fo_X7_7_17 eo dX7_init_112 (fun h64 => ?_)
  refine k_aload_n (i := 0) C dX7_init_115 rfl rfl ?_
  refine k_bipush (v := 8) C dX7_init_116 (by decide) ?_
  refine k_newa (N := 8) C caw_3 (by decide) (by decide) (by decide) dX7_init_118 (by decide) (by decide) (fun q65 s66 h67 hu68 => ?_)
  have eo := hu68 _ _ eo
  refine k_putR C f_X7_46 fo_X7_7_18 eo dX7_init_120 (fun h69 => ?_)
  refine k_aload_n (i := 0) C dX7_init_123 rfl rfl ?_
  refine k_bipush (v := 12) C dX7_init_124 (by decide) ?_
  refine k_newa (N := 12) C caw_3 (by decide) (by decide) (by decide) dX7_init_126 (by decide) (by decide) (fun q70 s71 h72 hu73 => ?_)
  have eo := hu73 _ _ eo
  refine k_putR C f_X7_49 fo_X7_7_24 eo dX7_init_128 (fun h74 => ?_)
  refine k_aload_n (i := 0) C dX7_init_131 rfl rfl ?_
  refine k_bipush (v := 24) C dX7_init_132 (by decide) ?_
  refine k_newa (N := 24) C caw_3 (by decide) (by decide) (by decide) dX7_init_134 (by decide) (by decide) (fun q75 s76 h77 hu78 => ?_)
  have eo := hu78 _ _ eo
  refine k_putR C f_X7_52 fo_X7_7_25 eo dX7_init_136 (fun h79 => ?_)
  refine k_aload_n (i := 0) C dX7_init_139 rfl rfl ?_
  refine k_iconst (v := 4) C dX7_init_140 (by decide) ?_
  refine k_newa (N := 4) C caw_3 (by decide) (by decide) (by decide) dX7_init_141 (by decide) (by decide) (fun q80 s81 h82 hu83 => ?_)
  have eo := hu83 _ _ eo
  refine k_putR C f_X7_55 fo_X7_7_26 eo dX7_init_143 (fun h84 => ?_)
  refine k_aload_n (i := 0) C dX7_init_146 rfl rfl ?_
  refine k_iconst (v := 4) C dX7_init_147 (by decide) ?_
  refine k_newa (N := 4) C caw_3 (by decide) (by decide) (by decide) dX7_init_148 (by decide) (by decide) (fun q85 s86 h87 hu88 => ?_)
  have eo := hu88 _ _ eo
  refine k_putR C f_X7_58 fo_X7_7_27 eo dX7_init_150 (fun h89 => ?_)
  refine k_aload_n (i := 0) C dX7_init_153 rfl rfl ?_
  refine k_iconst (v := 4) C dX7_init_154 (by decide) ?_
  refine k_newa (N := 4) C caw_3 (by decide) (by decide) (by decide) dX7_init_155 (by decide) (by decide) (fun q90 s91 h92 hu93 => ?_)
  have eo := hu93 _ _ eo
  refine k_putR C f_X7_61 fo_X7_7_28 eo dX7_init_157 (fun h94 => ?_)
  refine k_aload_n (i := 0) C dX7_init_160 rfl rfl ?_
  refine k_bipush (v := 8) C dX7_init_161 (by decide) ?_
  refine k_newa (N := 8) C caw_3 (by decide) (by decide) (by decide) dX7_init_163 (by decide) (by decide) (fun q95 s96 h97 hu98 => ?_)
  have eo := hu98 _ _ eo
  refine k_putR C f_X7_64 fo_X7_7_30 eo dX7_init_165 (fun h99 => ?_)
  refine k_aload_n (i := 0) C dX7_init_168 rfl rfl ?_
  refine k_bipush (v := 8) C dX7_init_169 (by decide) ?_
  refine k_newa (N := 8) C caw_3 (by decide) (by decide) (by decide) dX7_init_171 (by decide) (by decide) (fun q100 s101 h102 hu103 => ?_)
  have eo := hu103 _ _ eo
  refine k_putR C f_X7_67 fo_X7_7_31 eo dX7_init_173 (fun h104 => ?_)
  refine k_aload_n (i := 0) C dX7_init_176 rfl rfl ?_
  refine k_bipush (v := 8) C dX7_init_177 (by decide) ?_
  refine k_newa (N := 8) C caw_3 (by decide) (by decide) (by decide) dX7_init_179 (by decide) (by decide) (fun q105 s106 h107 hu108 => ?_)
  have eo := hu108 _ _ eo
  refine k_putR C f_X7_70 fo_X7_7_32 eo dX7_init_181 (fun h109 => ?_)
  exact k_vret C (by decide) (by decide) dX7_init_184
