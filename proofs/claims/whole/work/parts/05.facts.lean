def shC : Sh := [(0, 6), (2, 4), (0, 4), (1, 4), (3, 4), (1, 9), (1, 9), (1, 9), (1, 9), (1, 4), (1, 5), (1, 4), (0, 2), (1, 4), (3, 4), (1, 5), (1, 5), (1, 5), (1, 5), (1, 4), (0, 5), (1, 4), (1, 4), (0, 0), (1, 4), (1, 4), (1, 4), (1, 4), (1, 8), (1, 8), (1, 8), (0, 3), (1, 8), (1, 8), (1, 8), (0, 3), (1, 8), (1, 8), (1, 8), (3, 4), (1, 8), (1, 8), (1, 8), (1, 8), (1, 4), (0, 0), (1, 4), (1, 4), (1, 4), (1, 4), (1, 8), (1, 8), (1, 8), (0, 3), (1, 8), (1, 8), (1, 8), (0, 3), (1, 8), (1, 8), (1, 8), (3, 4), (1, 8), (1, 8), (1, 8), (1, 8), (1, 4), (0, 1), (1, 60), (0, 1), (1, 60), (0, 1), (1, 60), (0, 1), (1, 60)]
def shM : Sh := [(0, 7), (1, 4), (1, 4), (1, 240), (1, 4), (1, 4), (1, 4), (1, 4), (1, 8), (1, 8), (1, 8), (1, 8), (1, 8), (1, 8), (1, 12), (1, 24), (1, 4), (1, 4), (1, 4), (1, 8), (1, 8), (1, 8)]
/-- enough turns of any loop -/
def FU : Nat := 100000
set_option maxRecDepth 20000 in
theorem aw_0 : Cond.constant RJ6 265 (1431655765) ∈ AW := aw_t2 (i := 187) (by decide +kernel) rfl
set_option maxRecDepth 20000 in
theorem aw_1 : Cond.constant RJ6 266 (858993459) ∈ AW := aw_t2 (i := 188) (by decide +kernel) rfl
set_option maxRecDepth 20000 in
theorem aw_2 : Cond.constant RJ6 267 (252645135) ∈ AW := aw_t2 (i := 189) (by decide +kernel) rfl
set_option maxRecDepth 20000 in
theorem aw_3 : Cond.methodLink RX0 108 Lib.Math.abs.name ∈ AW := aw_t2 (i := 127) (by decide +kernel) rfl
set_option maxRecDepth 20000 in
theorem aw_4 : Cond.static Lib.Math.abs.name ∈ AW := aw_t2 (i := 128) (by decide +kernel) rfl
set_option maxRecDepth 20000 in
theorem aw_5 : Cond.initialized "java/lang/Math" ∈ AW := aw_t1 (i := 10) (by decide +kernel) rfl
set_option maxRecDepth 20000 in
theorem aw_6 : Cond.code Lib.Math.abs.name Lib.Math.abs.code 1 (some .int) ∈ AW := aw_t2 (i := 129) (rfl) rfl
set_option maxRecDepth 20000 in
theorem aw_7 : Cond.methodLink RX0 113 Lib.Math.max.name ∈ AW := aw_t2 (i := 130) (by decide +kernel) rfl
set_option maxRecDepth 20000 in
theorem aw_8 : Cond.static Lib.Math.max.name ∈ AW := aw_t2 (i := 131) (by decide +kernel) rfl
set_option maxRecDepth 20000 in
theorem aw_9 : Cond.code Lib.Math.max.name Lib.Math.max.code 2 (some .int) ∈ AW := aw_t2 (i := 132) (rfl) rfl
set_option maxRecDepth 20000 in
theorem aw_10 : Cond.static yX0_isDigit ∈ AW := aw_t2 (i := 38) (by decide +kernel) rfl
set_option maxRecDepth 20000 in
theorem aw_11 : Cond.static yX0_kindOf ∈ AW := aw_t2 (i := 49) (by decide +kernel) rfl
set_option maxRecDepth 20000 in
theorem aw_12 : Cond.static yJ7_fill_53178 ∈ AW := aw_t2 (i := 56) (by decide +kernel) rfl
set_option maxRecDepth 20000 in
theorem aw_13 : Cond.methodLink RX2 51 arraycopyName ∈ AW := aw_t2 (i := 217) (by decide +kernel) rfl
set_option maxRecDepth 20000 in
theorem aw_14 : Cond.native arraycopyName ∈ AW := aw_t2 (i := 197) (by decide +kernel) rfl
set_option maxRecDepth 20000 in
theorem aw_15 : Cond.static arraycopyName ∈ AW := aw_t2 (i := 196) (by decide +kernel) rfl
set_option maxRecDepth 20000 in
theorem aw_16 : Cond.initialized "java/lang/System" ∈ AW := aw_t1 (i := 12) (by decide +kernel) rfl
set_option maxRecDepth 20000 in
theorem aw_17 : Cond.static yJ6_bitCount_0f7a4 ∈ AW := aw_t2 (i := 185) (by decide +kernel) rfl
set_option maxRecDepth 20000 in
theorem aw_18 : Cond.methodLink RX4 63 arraycopyName ∈ AW := aw_t2 (i := 195) (by decide +kernel) rfl
set_option maxRecDepth 20000 in
theorem aw_19 : Cond.constantLong RX6 196 (-9223372036854775808) ∈ AW := aw_t3 (i := 24) (by decide +kernel) rfl
set_option maxRecDepth 20000 in
theorem aw_20 : Cond.static yX6_isLane ∈ AW := aw_t2 (i := 11) (by decide +kernel) rfl
set_option maxRecDepth 20000 in
theorem aw_21 : Cond.static yX6_isSheet ∈ AW := aw_t2 (i := 8) (by decide +kernel) rfl
set_option maxRecDepth 20000 in
theorem aw_22 : Cond.methodLink RX6 223 arraycopyName ∈ AW := aw_t3 (i := 74) (by decide +kernel) rfl
set_option maxRecDepth 20000 in
theorem aw_23 : Cond.static yX6_isWord ∈ AW := aw_t2 (i := 146) (by decide +kernel) rfl
set_option maxRecDepth 20000 in
theorem aw_24 : Cond.static yX6_isDay ∈ AW := aw_t2 (i := 87) (by decide +kernel) rfl
set_option maxRecDepth 20000 in
theorem aw_25 : Cond.static yX6_isWordSet ∈ AW := aw_t2 (i := 173) (by decide +kernel) rfl
set_option maxRecDepth 20000 in
theorem aw_26 : Cond.static yX7_size ∈ AW := aw_t4 (i := 101) (by decide +kernel) rfl
set_option maxRecDepth 20000 in
theorem aw_27 : Cond.static yX7_within ∈ AW := aw_t3 (i := 229) (by decide +kernel) rfl
set_option maxRecDepth 20000 in
theorem aw_28 : Cond.constantLong RX7 77 (-9223372036854775808) ∈ AW := aw_t4 (i := 187) (by decide +kernel) rfl
set_option maxRecDepth 20000 in
theorem aw_29 : Cond.static yX7_isSort ∈ AW := aw_t3 (i := 232) (by decide +kernel) rfl
set_option maxRecDepth 20000 in
theorem aw_30 : Cond.static yX7_isSheet ∈ AW := aw_t3 (i := 226) (by decide +kernel) rfl
set_option maxRecDepth 20000 in
theorem aw_31 : Cond.static yX7_isWord ∈ AW := aw_t4 (i := 98) (by decide +kernel) rfl
set_option maxRecDepth 20000 in
theorem aw_32 : Cond.static yX7_isDay ∈ AW := aw_t4 (i := 51) (by decide +kernel) rfl
set_option maxRecDepth 20000 in
theorem aw_33 : Cond.static yX7_inLeastTerms ∈ AW := aw_t4 (i := 189) (by decide +kernel) rfl
set_option maxRecDepth 20000 in
theorem aw_34 : Cond.fieldLink RX0 9 "RindTalk$Dairy" "cellars" "I" ∈ AW := aw_t1 (i := 139) (by decide +kernel) rfl
set_option maxRecDepth 20000 in
theorem aw_35 : Cond.fieldLink RX0 15 "RindTalk$Dairy" "cheeses" "I" ∈ AW := aw_t1 (i := 142) (by decide +kernel) rfl
set_option maxRecDepth 20000 in
theorem aw_36 : Cond.fieldLink RX0 18 "RindTalk$Dairy" "talks" "I" ∈ AW := aw_t1 (i := 146) (by decide +kernel) rfl
set_option maxRecDepth 20000 in
theorem aw_37 : Cond.fieldLink RX0 21 "RindTalk$Dairy" "kind" "[I" ∈ AW := aw_t1 (i := 149) (by decide +kernel) rfl
set_option maxRecDepth 20000 in
theorem aw_38 : Cond.fieldLink RX0 25 "RindTalk$Dairy" "lies" "[I" ∈ AW := aw_t1 (i := 152) (by decide +kernel) rfl
set_option maxRecDepth 20000 in
theorem aw_39 : Cond.fieldLink RX0 28 "RindTalk$Dairy" "thick" "[I" ∈ AW := aw_t1 (i := 154) (by decide +kernel) rfl
set_option maxRecDepth 20000 in
theorem aw_40 : Cond.fieldLink RX0 31 "RindTalk$Dairy" "turned" "[I" ∈ AW := aw_t1 (i := 156) (by decide +kernel) rfl
set_option maxRecDepth 20000 in
theorem aw_41 : Cond.fieldLink RX0 34 "RindTalk$Dairy" "saidIn" "[I" ∈ AW := aw_t1 (i := 158) (by decide +kernel) rfl
set_option maxRecDepth 20000 in
theorem aw_42 : Cond.fieldLink RX0 37 "RindTalk$Dairy" "loud" "[I" ∈ AW := aw_t1 (i := 160) (by decide +kernel) rfl
set_option maxRecDepth 20000 in
theorem aw_43 : Cond.fieldLink RX0 40 "RindTalk$Dairy" "word" "[I" ∈ AW := aw_t1 (i := 163) (by decide +kernel) rfl
set_option maxRecDepth 20000 in
theorem aw_44 : Cond.fieldLink RX0 46 "RindTalk$Dairy" "moves" "LRindTalk$Slips;" ∈ AW := aw_t1 (i := 166) (by decide +kernel) rfl
set_option maxRecDepth 20000 in
theorem aw_45 : Cond.fieldLink RX0 50 "RindTalk$Dairy" "readings" "LRindTalk$Slips;" ∈ AW := aw_t1 (i := 168) (by decide +kernel) rfl
set_option maxRecDepth 20000 in
theorem aw_46 : Cond.fieldLink RX0 55 "RindTalk$Dairy" "carried" "[[I" ∈ AW := aw_t1 (i := 170) (by decide +kernel) rfl
set_option maxRecDepth 20000 in
theorem aw_47 : Cond.fieldLink RX0 58 "RindTalk$Dairy" "heardTalks" "[I" ∈ AW := aw_t1 (i := 171) (by decide +kernel) rfl
set_option maxRecDepth 20000 in
theorem aw_48 : Cond.fieldLink RX0 61 "RindTalk$Slips" "count" "I" ∈ AW := aw_t1 (i := 127) (by decide +kernel) rfl
set_option maxRecDepth 20000 in
theorem aw_49 : Cond.fieldLink RX0 99 "RindTalk$Slips" "cheese" "[I" ∈ AW := aw_t1 (i := 121) (by decide +kernel) rfl
set_option maxRecDepth 20000 in
theorem aw_50 : Cond.fieldLink RX0 102 "RindTalk$Slips" "at" "[I" ∈ AW := aw_t1 (i := 123) (by decide +kernel) rfl
set_option maxRecDepth 20000 in
theorem aw_51 : Cond.fieldLink RX0 105 "RindTalk$Slips" "value" "[I" ∈ AW := aw_t1 (i := 125) (by decide +kernel) rfl
set_option maxRecDepth 20000 in
theorem aw_52 : Cond.fieldLink RX1 9 "RindTalk$Sheet" "cells" "[I" ∈ AW := aw_t1 (i := 206) (by decide +kernel) rfl
set_option maxRecDepth 20000 in
theorem aw_53 : Cond.fieldLink RX1 15 "RindTalk$Sheet" "lane" "I" ∈ AW := aw_t1 (i := 208) (by decide +kernel) rfl
set_option maxRecDepth 20000 in
theorem aw_54 : Cond.fieldLink RX1 19 "RindTalk$Sheet" "length" "I" ∈ AW := aw_t1 (i := 210) (by decide +kernel) rfl
set_option maxRecDepth 20000 in
theorem aw_55 : Cond.fieldLink RX2 9 "RindTalk$Shelving" "best" "[I" ∈ AW := aw_t1 (i := 66) (by decide +kernel) rfl
set_option maxRecDepth 20000 in
theorem aw_56 : Cond.fieldLink RX2 15 "RindTalk$Shelving" "most" "I" ∈ AW := aw_t1 (i := 68) (by decide +kernel) rfl
set_option maxRecDepth 20000 in
theorem aw_57 : Cond.fieldLink RX2 21 "RindTalk$Shelving" "hears" "[[I" ∈ AW := aw_t1 (i := 70) (by decide +kernel) rfl
set_option maxRecDepth 20000 in
theorem aw_58 : Cond.fieldLink RX2 24 "RindTalk$Shelving" "row" "[I" ∈ AW := aw_t1 (i := 71) (by decide +kernel) rfl
set_option maxRecDepth 20000 in
theorem aw_59 : Cond.fieldLink RX2 27 "RindTalk$Shelving" "cheeses" "I" ∈ AW := aw_t1 (i := 72) (by decide +kernel) rfl
set_option maxRecDepth 20000 in
theorem aw_60 : Cond.fieldLink RX2 30 "RindTalk$Shelving" "cellars" "I" ∈ AW := aw_t1 (i := 73) (by decide +kernel) rfl
set_option maxRecDepth 20000 in
theorem aw_61 : Cond.fieldLink RX2 33 "RindTalk$Dairy" "cheeses" "I" ∈ AW := aw_t1 (i := 144) (by decide +kernel) rfl
set_option maxRecDepth 20000 in
theorem aw_62 : Cond.fieldLink RX2 36 "RindTalk$Dairy" "cellars" "I" ∈ AW := aw_t1 (i := 140) (by decide +kernel) rfl
set_option maxRecDepth 20000 in
theorem aw_63 : Cond.fieldLink RX3 9 "RindTalk$Slips" "cheese" "[I" ∈ AW := aw_t1 (i := 120) (by decide +kernel) rfl
set_option maxRecDepth 20000 in
theorem aw_64 : Cond.fieldLink RX3 15 "RindTalk$Slips" "at" "[I" ∈ AW := aw_t1 (i := 122) (by decide +kernel) rfl
set_option maxRecDepth 20000 in
theorem aw_65 : Cond.fieldLink RX3 18 "RindTalk$Slips" "value" "[I" ∈ AW := aw_t1 (i := 124) (by decide +kernel) rfl
set_option maxRecDepth 20000 in
theorem aw_66 : Cond.fieldLink RX3 21 "RindTalk$Slips" "count" "I" ∈ AW := aw_t1 (i := 126) (by decide +kernel) rfl
set_option maxRecDepth 20000 in
theorem aw_67 : Cond.fieldLink RX4 9 "RindTalk$Sparing" "best" "[I" ∈ AW := aw_t1 (i := 31) (by decide +kernel) rfl
set_option maxRecDepth 20000 in
theorem aw_68 : Cond.fieldLink RX4 15 "RindTalk$Sparing" "fewest" "I" ∈ AW := aw_t1 (i := 33) (by decide +kernel) rfl
set_option maxRecDepth 20000 in
theorem aw_69 : Cond.fieldLink RX4 21 "RindTalk$Sparing" "had" "[[I" ∈ AW := aw_t1 (i := 35) (by decide +kernel) rfl
set_option maxRecDepth 20000 in
theorem aw_70 : Cond.fieldLink RX4 24 "RindTalk$Sparing" "deepest" "[I" ∈ AW := aw_t1 (i := 36) (by decide +kernel) rfl
set_option maxRecDepth 20000 in
theorem aw_71 : Cond.fieldLink RX4 27 "RindTalk$Sparing" "within" "[I" ∈ AW := aw_t1 (i := 37) (by decide +kernel) rfl
set_option maxRecDepth 20000 in
theorem aw_72 : Cond.fieldLink RX4 30 "RindTalk$Sparing" "row" "[I" ∈ AW := aw_t1 (i := 38) (by decide +kernel) rfl
set_option maxRecDepth 20000 in
theorem aw_73 : Cond.fieldLink RX4 33 "RindTalk$Sparing" "cheeses" "I" ∈ AW := aw_t1 (i := 39) (by decide +kernel) rfl
set_option maxRecDepth 20000 in
theorem aw_74 : Cond.fieldLink RX4 36 "RindTalk$Sparing" "wanted" "I" ∈ AW := aw_t1 (i := 40) (by decide +kernel) rfl
set_option maxRecDepth 20000 in
theorem aw_75 : Cond.fieldLink RX4 39 "RindTalk$Dairy" "cheeses" "I" ∈ AW := aw_t1 (i := 143) (by decide +kernel) rfl
set_option maxRecDepth 20000 in
theorem aw_76 : Cond.fieldLink RX5 9 "RindTalk$Whispers" "ways" "[I" ∈ AW := aw_t1 (i := 93) (by decide +kernel) rfl
set_option maxRecDepth 20000 in
theorem aw_77 : Cond.fieldLink RX5 15 "RindTalk$Whispers" "next" "[I" ∈ AW := aw_t1 (i := 94) (by decide +kernel) rfl
set_option maxRecDepth 20000 in
theorem aw_78 : Cond.fieldLink RX5 18 "RindTalk$Whispers" "upper" "I" ∈ AW := aw_t1 (i := 95) (by decide +kernel) rfl
set_option maxRecDepth 20000 in
theorem aw_79 : Cond.fieldLink RX5 22 "RindTalk$Whispers" "lower" "I" ∈ AW := aw_t1 (i := 97) (by decide +kernel) rfl
set_option maxRecDepth 20000 in
theorem aw_80 : Cond.fieldLink RX5 31 "RindTalk$Dairy" "talks" "I" ∈ AW := aw_t1 (i := 147) (by decide +kernel) rfl
set_option maxRecDepth 20000 in
theorem aw_81 : Cond.fieldLink RX5 40 "RindTalk$Dairy" "loud" "[I" ∈ AW := aw_t1 (i := 161) (by decide +kernel) rfl
set_option maxRecDepth 20000 in
theorem aw_82 : Cond.fieldLink RX5 54 "RindTalk$Dairy" "kind" "[I" ∈ AW := aw_t1 (i := 150) (by decide +kernel) rfl
set_option maxRecDepth 20000 in
theorem aw_83 : Cond.fieldLink RX5 57 "RindTalk$Dairy" "word" "[I" ∈ AW := aw_t1 (i := 164) (by decide +kernel) rfl
set_option maxRecDepth 20000 in
theorem aw_84 : Cond.fieldLink RX6 13 "RindTalk" "sheets" "[LRindTalk$Sheet;" ∈ AW := aw_t1 (i := 218) (by decide +kernel) rfl
set_option maxRecDepth 20000 in
theorem aw_85 : Cond.fieldLink RX6 20 "RindTalk" "sparing" "LRindTalk$Sparing;" ∈ AW := aw_t1 (i := 219) (by decide +kernel) rfl
set_option maxRecDepth 20000 in
theorem aw_86 : Cond.fieldLink RX6 27 "RindTalk" "shelving" "LRindTalk$Shelving;" ∈ AW := aw_t1 (i := 220) (by decide +kernel) rfl
set_option maxRecDepth 20000 in
theorem aw_87 : Cond.fieldLink RX6 34 "RindTalk" "whispers" "LRindTalk$Whispers;" ∈ AW := aw_t1 (i := 221) (by decide +kernel) rfl
set_option maxRecDepth 20000 in
theorem aw_88 : Cond.fieldLink RX6 41 "RindTalk" "taken" "LRindTalk$Dairy;" ∈ AW := aw_t1 (i := 222) (by decide +kernel) rfl
set_option maxRecDepth 20000 in
theorem aw_89 : Cond.fieldLink RX6 45 "RindTalk" "draft" "LRindTalk$Dairy;" ∈ AW := aw_t1 (i := 223) (by decide +kernel) rfl
set_option maxRecDepth 20000 in
theorem aw_90 : Cond.fieldLink RX6 48 "RindTalk" "traced" "I" ∈ AW := aw_t1 (i := 224) (by decide +kernel) rfl
set_option maxRecDepth 20000 in
theorem aw_91 : Cond.fieldLink RX6 52 "RindTalk" "lastFault" "I" ∈ AW := aw_t1 (i := 225) (by decide +kernel) rfl
set_option maxRecDepth 20000 in
theorem aw_92 : Cond.fieldLink RX6 74 "RindTalk$Sheet" "cells" "[I" ∈ AW := aw_t1 (i := 207) (by decide +kernel) rfl
set_option maxRecDepth 20000 in
theorem aw_93 : Cond.fieldLink RX6 82 "RindTalk$Dairy" "talks" "I" ∈ AW := aw_t1 (i := 148) (by decide +kernel) rfl
set_option maxRecDepth 20000 in
theorem aw_94 : Cond.fieldLink RX6 88 "RindTalk$Dairy" "kind" "[I" ∈ AW := aw_t1 (i := 151) (by decide +kernel) rfl
set_option maxRecDepth 20000 in
theorem aw_95 : Cond.fieldLink RX6 91 "RindTalk$Dairy" "lies" "[I" ∈ AW := aw_t1 (i := 153) (by decide +kernel) rfl
set_option maxRecDepth 20000 in
theorem aw_96 : Cond.fieldLink RX6 94 "RindTalk$Dairy" "thick" "[I" ∈ AW := aw_t1 (i := 155) (by decide +kernel) rfl
set_option maxRecDepth 20000 in
theorem aw_97 : Cond.fieldLink RX6 97 "RindTalk$Dairy" "turned" "[I" ∈ AW := aw_t1 (i := 157) (by decide +kernel) rfl
set_option maxRecDepth 20000 in
theorem aw_98 : Cond.fieldLink RX6 103 "RindTalk$Dairy" "saidIn" "[I" ∈ AW := aw_t1 (i := 159) (by decide +kernel) rfl
set_option maxRecDepth 20000 in
theorem aw_99 : Cond.fieldLink RX6 106 "RindTalk$Dairy" "loud" "[I" ∈ AW := aw_t1 (i := 162) (by decide +kernel) rfl
set_option maxRecDepth 20000 in
theorem aw_100 : Cond.fieldLink RX6 109 "RindTalk$Dairy" "word" "[I" ∈ AW := aw_t1 (i := 165) (by decide +kernel) rfl
set_option maxRecDepth 20000 in
theorem aw_101 : Cond.fieldLink RX6 112 "RindTalk$Dairy" "cellars" "I" ∈ AW := aw_t1 (i := 141) (by decide +kernel) rfl
set_option maxRecDepth 20000 in
theorem aw_102 : Cond.fieldLink RX6 118 "RindTalk$Dairy" "moves" "LRindTalk$Slips;" ∈ AW := aw_t1 (i := 167) (by decide +kernel) rfl
set_option maxRecDepth 20000 in
theorem aw_103 : Cond.fieldLink RX6 168 "RindTalk$Sparing" "fewest" "I" ∈ AW := aw_t1 (i := 34) (by decide +kernel) rfl
set_option maxRecDepth 20000 in
theorem aw_104 : Cond.fieldLink RX6 171 "RindTalk$Sparing" "best" "[I" ∈ AW := aw_t1 (i := 32) (by decide +kernel) rfl
set_option maxRecDepth 20000 in
theorem aw_105 : Cond.fieldLink RX6 177 "RindTalk$Shelving" "most" "I" ∈ AW := aw_t1 (i := 69) (by decide +kernel) rfl
set_option maxRecDepth 20000 in
theorem aw_106 : Cond.fieldLink RX6 180 "RindTalk$Shelving" "best" "[I" ∈ AW := aw_t1 (i := 67) (by decide +kernel) rfl
set_option maxRecDepth 20000 in
theorem aw_107 : Cond.fieldLink RX6 181 "RindTalk$Dairy" "cheeses" "I" ∈ AW := aw_t1 (i := 145) (by decide +kernel) rfl
set_option maxRecDepth 20000 in
theorem aw_108 : Cond.fieldLink RX6 187 "RindTalk$Dairy" "readings" "LRindTalk$Slips;" ∈ AW := aw_t1 (i := 169) (by decide +kernel) rfl
set_option maxRecDepth 20000 in
theorem aw_109 : Cond.fieldLink RX6 201 "RindTalk$Whispers" "upper" "I" ∈ AW := aw_t1 (i := 96) (by decide +kernel) rfl
set_option maxRecDepth 20000 in
theorem aw_110 : Cond.fieldLink RX6 204 "RindTalk$Whispers" "lower" "I" ∈ AW := aw_t1 (i := 98) (by decide +kernel) rfl
set_option maxRecDepth 20000 in
theorem aw_111 : Cond.fieldLink RX6 220 "RindTalk$Sheet" "lane" "I" ∈ AW := aw_t1 (i := 209) (by decide +kernel) rfl
set_option maxRecDepth 20000 in
theorem aw_112 : Cond.fieldLink RX6 242 "RindTalk$Slips" "count" "I" ∈ AW := aw_t1 (i := 128) (by decide +kernel) rfl
set_option maxRecDepth 20000 in
theorem aw_113 : Cond.fieldLink RX7 9 "RindTalkModel" "sorts" "[I" ∈ AW := aw_t3 (i := 123) (by decide +kernel) rfl
set_option maxRecDepth 20000 in
theorem aw_114 : Cond.fieldLink RX7 13 "RindTalkModel" "sheetLong" "[I" ∈ AW := aw_t3 (i := 124) (by decide +kernel) rfl
set_option maxRecDepth 20000 in
theorem aw_115 : Cond.fieldLink RX7 16 "RindTalkModel" "cells" "[I" ∈ AW := aw_t3 (i := 125) (by decide +kernel) rfl
set_option maxRecDepth 20000 in
theorem aw_116 : Cond.fieldLink RX7 19 "RindTalkModel" "kind" "[I" ∈ AW := aw_t3 (i := 129) (by decide +kernel) rfl
set_option maxRecDepth 20000 in
theorem aw_117 : Cond.fieldLink RX7 22 "RindTalkModel" "first" "[I" ∈ AW := aw_t3 (i := 130) (by decide +kernel) rfl
set_option maxRecDepth 20000 in
theorem aw_118 : Cond.fieldLink RX7 25 "RindTalkModel" "thick" "[I" ∈ AW := aw_t3 (i := 131) (by decide +kernel) rfl
set_option maxRecDepth 20000 in
theorem aw_119 : Cond.fieldLink RX7 28 "RindTalkModel" "turnedFrom" "[I" ∈ AW := aw_t3 (i := 132) (by decide +kernel) rfl
set_option maxRecDepth 20000 in
theorem aw_120 : Cond.fieldLink RX7 31 "RindTalkModel" "talkIn" "[I" ∈ AW := aw_t3 (i := 133) (by decide +kernel) rfl
set_option maxRecDepth 20000 in
theorem aw_121 : Cond.fieldLink RX7 34 "RindTalkModel" "loud" "[I" ∈ AW := aw_t3 (i := 134) (by decide +kernel) rfl
set_option maxRecDepth 20000 in
theorem aw_122 : Cond.fieldLink RX7 37 "RindTalkModel" "wordOf" "[I" ∈ AW := aw_t3 (i := 135) (by decide +kernel) rfl
set_option maxRecDepth 20000 in
theorem aw_123 : Cond.fieldLink RX7 40 "RindTalkModel" "moveOf" "[I" ∈ AW := aw_t3 (i := 137) (by decide +kernel) rfl
set_option maxRecDepth 20000 in
theorem aw_124 : Cond.fieldLink RX7 43 "RindTalkModel" "moveFrom" "[I" ∈ AW := aw_t3 (i := 138) (by decide +kernel) rfl
set_option maxRecDepth 20000 in
theorem aw_125 : Cond.fieldLink RX7 46 "RindTalkModel" "moveTo" "[I" ∈ AW := aw_t3 (i := 139) (by decide +kernel) rfl
set_option maxRecDepth 20000 in
theorem aw_126 : Cond.fieldLink RX7 49 "RindTalkModel" "readCheese" "[I" ∈ AW := aw_t3 (i := 145) (by decide +kernel) rfl
set_option maxRecDepth 20000 in
theorem aw_127 : Cond.fieldLink RX7 52 "RindTalkModel" "readTalk" "[I" ∈ AW := aw_t3 (i := 146) (by decide +kernel) rfl
set_option maxRecDepth 20000 in
theorem aw_128 : Cond.fieldLink RX7 55 "RindTalkModel" "row" "[I" ∈ AW := aw_t3 (i := 147) (by decide +kernel) rfl
set_option maxRecDepth 20000 in
theorem aw_129 : Cond.fieldLink RX7 58 "RindTalkModel" "found" "[I" ∈ AW := aw_t3 (i := 148) (by decide +kernel) rfl
set_option maxRecDepth 20000 in
theorem aw_130 : Cond.fieldLink RX7 61 "RindTalkModel" "kept" "[I" ∈ AW := aw_t3 (i := 149) (by decide +kernel) rfl
set_option maxRecDepth 20000 in
theorem aw_131 : Cond.fieldLink RX7 64 "RindTalkModel" "readCheeseOf" "[I" ∈ AW := aw_t3 (i := 151) (by decide +kernel) rfl
set_option maxRecDepth 20000 in
theorem aw_132 : Cond.fieldLink RX7 67 "RindTalkModel" "readLayer" "[I" ∈ AW := aw_t3 (i := 152) (by decide +kernel) rfl
set_option maxRecDepth 20000 in
theorem aw_133 : Cond.fieldLink RX7 70 "RindTalkModel" "readWord" "[I" ∈ AW := aw_t3 (i := 153) (by decide +kernel) rfl
set_option maxRecDepth 20000 in
theorem aw_134 : Cond.fieldLink RX7 73 "RindTalkModel" "fault" "I" ∈ AW := aw_t3 (i := 121) (by decide +kernel) rfl
set_option maxRecDepth 20000 in
theorem aw_135 : Cond.fieldLink RX7 83 "RindTalkModel" "cheeses" "I" ∈ AW := aw_t3 (i := 127) (by decide +kernel) rfl
set_option maxRecDepth 20000 in
theorem aw_136 : Cond.fieldLink RX7 86 "RindTalkModel" "cellars" "I" ∈ AW := aw_t3 (i := 126) (by decide +kernel) rfl
set_option maxRecDepth 20000 in
theorem aw_137 : Cond.fieldLink RX7 89 "RindTalkModel" "talks" "I" ∈ AW := aw_t3 (i := 128) (by decide +kernel) rfl
set_option maxRecDepth 20000 in
theorem aw_138 : Cond.fieldLink RX7 92 "RindTalkModel" "at" "I" ∈ AW := aw_t3 (i := 141) (by decide +kernel) rfl
set_option maxRecDepth 20000 in
theorem aw_139 : Cond.fieldLink RX7 116 "RindTalkModel" "readCellars" "I" ∈ AW := aw_t3 (i := 142) (by decide +kernel) rfl
set_option maxRecDepth 20000 in
theorem aw_140 : Cond.fieldLink RX7 119 "RindTalkModel" "readCheeses" "I" ∈ AW := aw_t3 (i := 143) (by decide +kernel) rfl
set_option maxRecDepth 20000 in
theorem aw_141 : Cond.fieldLink RX7 122 "RindTalkModel" "readTalks" "I" ∈ AW := aw_t3 (i := 144) (by decide +kernel) rfl
set_option maxRecDepth 20000 in
theorem aw_142 : Cond.fieldLink RX7 125 "RindTalkModel" "moves" "I" ∈ AW := aw_t3 (i := 136) (by decide +kernel) rfl
set_option maxRecDepth 20000 in
theorem aw_143 : Cond.fieldLink RX7 128 "RindTalkModel" "readings" "I" ∈ AW := aw_t3 (i := 150) (by decide +kernel) rfl
set_option maxRecDepth 20000 in
theorem aw_144 : Cond.fieldLink RX7 161 "RindTalkModel" "whispered" "I" ∈ AW := aw_t3 (i := 140) (by decide +kernel) rfl
set_option maxRecDepth 20000 in
theorem aw_145 : Cond.fieldLink RX7 220 "RindTalkModel" "trace" "I" ∈ AW := aw_t3 (i := 122) (by decide +kernel) rfl
set_option maxRecDepth 20000 in
theorem aw_146 : Cond.code yX0_goesOn cX0_goesOn 4 (some .boolean) ∈ AW := aw_t2 (i := 36) (rfl) rfl
set_option maxRecDepth 20000 in
theorem aw_147 : Cond.initialized RX0 ∈ AW := aw_t1 (i := 5) (by decide +kernel) rfl
set_option maxRecDepth 20000 in
theorem aw_148 : Cond.methodLink RX0 64 yX0_goesOn ∈ AW := aw_t2 (i := 33) (by decide +kernel) rfl
set_option maxRecDepth 20000 in
theorem aw_149 : Cond.code yJ7_fill_53178 cJ7_fill_53178 4 none ∈ AW := aw_t2 (i := 57) (rfl) rfl
set_option maxRecDepth 20000 in
theorem aw_150 : Cond.initialized RJ7 ∈ AW := aw_t1 (i := 9) (by decide +kernel) rfl
set_option maxRecDepth 20000 in
theorem aw_151 : Cond.methodLink RX0 68 yJ7_fill_53178 ∈ AW := aw_t2 (i := 55) (by decide +kernel) rfl
set_option maxRecDepth 20000 in
theorem aw_152 : Cond.code yX0_carry cX0_carry 3 none ∈ AW := aw_t2 (i := 61) (rfl) rfl
set_option maxRecDepth 20000 in
theorem aw_153 : Cond.methodLink RX0 74 yX0_carry ∈ AW := aw_t2 (i := 58) (by decide +kernel) rfl
set_option maxRecDepth 20000 in
theorem aw_154 : Cond.code yX0_isDigit cX0_isDigit 3 (some .boolean) ∈ AW := aw_t2 (i := 39) (rfl) rfl
set_option maxRecDepth 20000 in
theorem aw_155 : Cond.methodLink RX0 77 yX0_isDigit ∈ AW := aw_t2 (i := 37) (by decide +kernel) rfl
set_option maxRecDepth 20000 in
theorem aw_156 : Cond.code yX0_begins cX0_begins 2 (some .boolean) ∈ AW := aw_t2 (i := 43) (rfl) rfl
set_option maxRecDepth 20000 in
theorem aw_157 : Cond.methodLink RX0 81 yX0_begins ∈ AW := aw_t2 (i := 40) (by decide +kernel) rfl
set_option maxRecDepth 20000 in
theorem aw_158 : Cond.code yX0_cheeseGoesOn cX0_cheeseGoesOn 4 (some .boolean) ∈ AW := aw_t2 (i := 47) (rfl) rfl
set_option maxRecDepth 20000 in
theorem aw_159 : Cond.methodLink RX0 85 yX0_cheeseGoesOn ∈ AW := aw_t2 (i := 44) (by decide +kernel) rfl
set_option maxRecDepth 20000 in
theorem aw_160 : Cond.code yX0_talkGoesOn cX0_talkGoesOn 4 (some .boolean) ∈ AW := aw_t2 (i := 54) (rfl) rfl
set_option maxRecDepth 20000 in
theorem aw_161 : Cond.methodLink RX0 88 yX0_talkGoesOn ∈ AW := aw_t2 (i := 51) (by decide +kernel) rfl
set_option maxRecDepth 20000 in
theorem aw_162 : Cond.code yX0_kindOf cX0_kindOf 1 (some .int) ∈ AW := aw_t2 (i := 50) (rfl) rfl
set_option maxRecDepth 20000 in
theorem aw_163 : Cond.methodLink RX0 91 yX0_kindOf ∈ AW := aw_t2 (i := 48) (by decide +kernel) rfl
set_option maxRecDepth 20000 in
theorem aw_164 : Cond.code yX0_carriedTo cX0_carriedTo 6 (some .int) ∈ AW := aw_t2 (i := 65) (rfl) rfl
set_option maxRecDepth 20000 in
theorem aw_165 : Cond.methodLink RX0 95 yX0_carriedTo ∈ AW := aw_t2 (i := 62) (by decide +kernel) rfl
set_option maxRecDepth 20000 in
theorem aw_166 : Cond.code yX0_cellarOn cX0_cellarOn 3 (some .int) ∈ AW := aw_t2 (i := 113) (rfl) rfl
set_option maxRecDepth 20000 in
theorem aw_167 : Cond.methodLink RX0 116 yX0_cellarOn ∈ AW := aw_t2 (i := 122) (by decide +kernel) rfl
set_option maxRecDepth 20000 in
theorem aw_168 : Cond.code yX0_catches cX0_catches 7 (some .boolean) ∈ AW := aw_t2 (i := 126) (rfl) rfl
set_option maxRecDepth 20000 in
theorem aw_169 : Cond.methodLink RX0 119 yX0_catches ∈ AW := aw_t2 (i := 123) (by decide +kernel) rfl
set_option maxRecDepth 20000 in
theorem aw_170 : Cond.code yX0_talksTo cX0_talksTo 7 (some .int) ∈ AW := aw_t2 (i := 121) (rfl) rfl
set_option maxRecDepth 20000 in
theorem aw_171 : Cond.methodLink RX0 123 yX0_talksTo ∈ AW := aw_t2 (i := 210) (by decide +kernel) rfl
set_option maxRecDepth 20000 in
theorem aw_172 : Cond.code yX0_wordsDown cX0_wordsDown 6 (some .int) ∈ AW := aw_t2 (i := 167) (rfl) rfl
set_option maxRecDepth 20000 in
theorem aw_173 : Cond.methodLink RX0 126 yX0_wordsDown ∈ AW := aw_t2 (i := 211) (by decide +kernel) rfl
set_option maxRecDepth 20000 in
theorem aw_174 : Cond.code yX0_talkAt cX0_talkAt 5 (some .int) ∈ AW := aw_t2 (i := 140) (rfl) rfl
set_option maxRecDepth 20000 in
theorem aw_175 : Cond.methodLink RX0 129 yX0_talkAt ∈ AW := aw_t3 (i := 7) (by decide +kernel) rfl
set_option maxRecDepth 20000 in
theorem aw_176 : Cond.methodLink RX1 22 yJ7_fill_53178 ∈ AW := aw_t3 (i := 48) (by decide +kernel) rfl
set_option maxRecDepth 20000 in
theorem aw_177 : Cond.code yX1_hasNothing cX1_hasNothing 1 (some .boolean) ∈ AW := aw_t2 (i := 20) (rfl) rfl
set_option maxRecDepth 20000 in
theorem aw_178 : Cond.initialized RX1 ∈ AW := aw_t1 (i := 7) (by decide +kernel) rfl
set_option maxRecDepth 20000 in
theorem aw_179 : Cond.methodLink RX1 28 yX1_hasNothing ∈ AW := aw_t2 (i := 17) (by decide +kernel) rfl
set_option maxRecDepth 20000 in
theorem aw_180 : Cond.code yX0_wordsTo cX0_wordsTo 3 (some .int) ∈ AW := aw_t2 (i := 209) (rfl) rfl
set_option maxRecDepth 20000 in
theorem aw_181 : Cond.methodLink RX2 37 yX0_wordsTo ∈ AW := aw_t2 (i := 206) (by decide +kernel) rfl
set_option maxRecDepth 20000 in
theorem aw_182 : Cond.code yX2_shelveFrom cX2_shelveFrom 4 none ∈ AW := aw_t2 (i := 215) (rfl) rfl
set_option maxRecDepth 20000 in
theorem aw_183 : Cond.initialized RX2 ∈ AW := aw_t1 (i := 3) (by decide +kernel) rfl
set_option maxRecDepth 20000 in
theorem aw_184 : Cond.methodLink RX2 41 yX2_shelveFrom ∈ AW := aw_t2 (i := 212) (by decide +kernel) rfl
set_option maxRecDepth 20000 in
theorem aw_185 : Cond.code yJ6_bitCount_0f7a4 cJ6_bitCount_0f7a4 1 (some .int) ∈ AW := aw_t2 (i := 186) (rfl) rfl
set_option maxRecDepth 20000 in
theorem aw_186 : Cond.initialized RJ6 ∈ AW := aw_t1 (i := 11) (by decide +kernel) rfl
set_option maxRecDepth 20000 in
theorem aw_187 : Cond.methodLink RX2 45 yJ6_bitCount_0f7a4 ∈ AW := aw_t2 (i := 216) (by decide +kernel) rfl
set_option maxRecDepth 20000 in
theorem aw_188 : Cond.code yX4_measure cX4_measure 8 none ∈ AW := aw_t2 (i := 182) (rfl) rfl
set_option maxRecDepth 20000 in
theorem aw_189 : Cond.initialized RX4 ∈ AW := aw_t1 (i := 2) (by decide +kernel) rfl
set_option maxRecDepth 20000 in
theorem aw_190 : Cond.methodLink RX4 42 yX4_measure ∈ AW := aw_t2 (i := 179) (by decide +kernel) rfl
set_option maxRecDepth 20000 in
theorem aw_191 : Cond.code yX4_cutFrom cX4_cutFrom 6 none ∈ AW := aw_t2 (i := 194) (rfl) rfl
set_option maxRecDepth 20000 in
theorem aw_192 : Cond.methodLink RX4 46 yX4_cutFrom ∈ AW := aw_t2 (i := 191) (by decide +kernel) rfl
set_option maxRecDepth 20000 in
theorem aw_193 : Cond.methodLink RX4 50 yX0_talksTo ∈ AW := aw_t2 (i := 183) (by decide +kernel) rfl
set_option maxRecDepth 20000 in
theorem aw_194 : Cond.methodLink RX4 54 yJ6_bitCount_0f7a4 ∈ AW := aw_t2 (i := 184) (by decide +kernel) rfl
set_option maxRecDepth 20000 in
theorem aw_195 : Cond.methodLink RX4 60 yX0_wordsDown ∈ AW := aw_t2 (i := 190) (by decide +kernel) rfl
set_option maxRecDepth 20000 in
theorem aw_196 : Cond.methodLink RX5 25 yJ7_fill_53178 ∈ AW := aw_t3 (i := 29) (by decide +kernel) rfl
set_option maxRecDepth 20000 in
theorem aw_197 : Cond.code yX5_spread cX5_spread 12 none ∈ AW := aw_t3 (i := 33) (rfl) rfl
set_option maxRecDepth 20000 in
theorem aw_198 : Cond.initialized RX5 ∈ AW := aw_t1 (i := 4) (by decide +kernel) rfl
set_option maxRecDepth 20000 in
theorem aw_199 : Cond.methodLink RX5 36 yX5_spread ∈ AW := aw_t3 (i := 30) (by decide +kernel) rfl
set_option maxRecDepth 20000 in
theorem aw_200 : Cond.code yX5_reduce cX5_reduce 2 none ∈ AW := aw_t3 (i := 39) (rfl) rfl
set_option maxRecDepth 20000 in
theorem aw_201 : Cond.methodLink RX5 43 yX5_reduce ∈ AW := aw_t3 (i := 36) (by decide +kernel) rfl
set_option maxRecDepth 20000 in
theorem aw_202 : Cond.methodLink RX5 46 yX0_cellarOn ∈ AW := aw_t3 (i := 34) (by decide +kernel) rfl
set_option maxRecDepth 20000 in
theorem aw_203 : Cond.methodLink RX5 50 yX0_catches ∈ AW := aw_t3 (i := 35) (by decide +kernel) rfl
set_option maxRecDepth 20000 in
theorem aw_204 : Cond.code yX6_isSheet cX6_isSheet 1 (some .boolean) ∈ AW := aw_t2 (i := 9) (rfl) rfl
set_option maxRecDepth 20000 in
theorem aw_205 : Cond.initialized RX6 ∈ AW := aw_t1 (i := 1) (by decide +kernel) rfl
set_option maxRecDepth 20000 in
theorem aw_206 : Cond.methodLink RX6 56 yX6_isSheet ∈ AW := aw_t2 (i := 7) (by decide +kernel) rfl
set_option maxRecDepth 20000 in
theorem aw_207 : Cond.code yX6_isLane cX6_isLane 1 (some .boolean) ∈ AW := aw_t2 (i := 12) (rfl) rfl
set_option maxRecDepth 20000 in
theorem aw_208 : Cond.methodLink RX6 60 yX6_isLane ∈ AW := aw_t2 (i := 10) (by decide +kernel) rfl
set_option maxRecDepth 20000 in
theorem aw_209 : Cond.code yX1_faultAs cX1_faultAs 2 (some .int) ∈ AW := aw_t2 (i := 16) (rfl) rfl
set_option maxRecDepth 20000 in
theorem aw_210 : Cond.methodLink RX6 63 yX1_faultAs ∈ AW := aw_t2 (i := 13) (by decide +kernel) rfl
set_option maxRecDepth 20000 in
theorem aw_211 : Cond.code yX1_hasCells cX1_hasCells 3 (some .boolean) ∈ AW := aw_t2 (i := 24) (rfl) rfl
set_option maxRecDepth 20000 in
theorem aw_212 : Cond.methodLink RX6 67 yX1_hasCells ∈ AW := aw_t2 (i := 21) (by decide +kernel) rfl
set_option maxRecDepth 20000 in
theorem aw_213 : Cond.code yX6_faulty cX6_faulty 2 (some .int) ∈ AW := aw_t2 (i := 28) (rfl) rfl
set_option maxRecDepth 20000 in
theorem aw_214 : Cond.methodLink RX6 71 yX6_faulty ∈ AW := aw_t2 (i := 25) (by decide +kernel) rfl
set_option maxRecDepth 20000 in
theorem aw_215 : Cond.code yX0_takeText cX0_takeText 5 (some .int) ∈ AW := aw_t2 (i := 32) (rfl) rfl
set_option maxRecDepth 20000 in
theorem aw_216 : Cond.methodLink RX6 78 yX0_takeText ∈ AW := aw_t2 (i := 29) (by decide +kernel) rfl
set_option maxRecDepth 20000 in
theorem aw_217 : Cond.code yX6_isCheese cX6_isCheese 2 (some .boolean) ∈ AW := aw_t2 (i := 73) (rfl) rfl
set_option maxRecDepth 20000 in
theorem aw_218 : Cond.methodLink RX6 85 yX6_isCheese ∈ AW := aw_t2 (i := 70) (by decide +kernel) rfl
set_option maxRecDepth 20000 in
theorem aw_219 : Cond.code yX6_isTalk cX6_isTalk 2 (some .boolean) ∈ AW := aw_t2 (i := 81) (rfl) rfl
set_option maxRecDepth 20000 in
theorem aw_220 : Cond.methodLink RX6 100 yX6_isTalk ∈ AW := aw_t2 (i := 78) (by decide +kernel) rfl
set_option maxRecDepth 20000 in
theorem aw_221 : Cond.code yX6_isDay cX6_isDay 1 (some .boolean) ∈ AW := aw_t2 (i := 88) (rfl) rfl
set_option maxRecDepth 20000 in
theorem aw_222 : Cond.methodLink RX6 115 yX6_isDay ∈ AW := aw_t2 (i := 86) (by decide +kernel) rfl
set_option maxRecDepth 20000 in
theorem aw_223 : Cond.code yX3_add cX3_add 4 (some .int) ∈ AW := aw_t2 (i := 92) (rfl) rfl
set_option maxRecDepth 20000 in
theorem aw_224 : Cond.initialized RX3 ∈ AW := aw_t1 (i := 6) (by decide +kernel) rfl
set_option maxRecDepth 20000 in
theorem aw_225 : Cond.methodLink RX6 122 yX3_add ∈ AW := aw_t2 (i := 89) (by decide +kernel) rfl
set_option maxRecDepth 20000 in
theorem aw_226 : Cond.methodLink RX6 128 yX0_carry ∈ AW := aw_t2 (i := 93) (by decide +kernel) rfl
set_option maxRecDepth 20000 in
theorem aw_227 : Cond.code yX3_takeBack cX3_takeBack 2 (some .int) ∈ AW := aw_t2 (i := 101) (rfl) rfl
set_option maxRecDepth 20000 in
theorem aw_228 : Cond.methodLink RX6 131 yX3_takeBack ∈ AW := aw_t2 (i := 98) (by decide +kernel) rfl
set_option maxRecDepth 20000 in
theorem aw_229 : Cond.methodLink RX6 134 yX0_cellarOn ∈ AW := aw_t2 (i := 110) (by decide +kernel) rfl
set_option maxRecDepth 20000 in
theorem aw_230 : Cond.methodLink RX6 138 yX0_talksTo ∈ AW := aw_t2 (i := 118) (by decide +kernel) rfl
set_option maxRecDepth 20000 in
theorem aw_231 : Cond.methodLink RX6 141 yX0_talkAt ∈ AW := aw_t2 (i := 137) (by decide +kernel) rfl
set_option maxRecDepth 20000 in
theorem aw_232 : Cond.code yX6_isWord cX6_isWord 1 (some .boolean) ∈ AW := aw_t2 (i := 147) (rfl) rfl
set_option maxRecDepth 20000 in
theorem aw_233 : Cond.methodLink RX6 144 yX6_isWord ∈ AW := aw_t2 (i := 145) (by decide +kernel) rfl
set_option maxRecDepth 20000 in
theorem aw_234 : Cond.code yX0_depthOf cX0_depthOf 5 (some .int) ∈ AW := aw_t2 (i := 151) (rfl) rfl
set_option maxRecDepth 20000 in
theorem aw_235 : Cond.methodLink RX6 147 yX0_depthOf ∈ AW := aw_t2 (i := 148) (by decide +kernel) rfl
set_option maxRecDepth 20000 in
theorem aw_236 : Cond.code yX6_hasNoDairy cX6_hasNoDairy 1 (some .boolean) ∈ AW := aw_t2 (i := 159) (rfl) rfl
set_option maxRecDepth 20000 in
theorem aw_237 : Cond.methodLink RX6 150 yX6_hasNoDairy ∈ AW := aw_t2 (i := 156) (by decide +kernel) rfl
set_option maxRecDepth 20000 in
theorem aw_238 : Cond.code yX6_cutPairs cX6_cutPairs 11 (some .int) ∈ AW := aw_t2 (i := 163) (rfl) rfl
set_option maxRecDepth 20000 in
theorem aw_239 : Cond.methodLink RX6 154 yX6_cutPairs ∈ AW := aw_t2 (i := 160) (by decide +kernel) rfl
set_option maxRecDepth 20000 in
theorem aw_240 : Cond.methodLink RX6 158 yX0_wordsDown ∈ AW := aw_t2 (i := 164) (by decide +kernel) rfl
set_option maxRecDepth 20000 in
theorem aw_241 : Cond.code yX6_isWordSet cX6_isWordSet 1 (some .boolean) ∈ AW := aw_t2 (i := 174) (rfl) rfl
set_option maxRecDepth 20000 in
theorem aw_242 : Cond.methodLink RX6 161 yX6_isWordSet ∈ AW := aw_t2 (i := 172) (by decide +kernel) rfl
set_option maxRecDepth 20000 in
theorem aw_243 : Cond.code yX4_find cX4_find 5 none ∈ AW := aw_t2 (i := 178) (rfl) rfl
set_option maxRecDepth 20000 in
theorem aw_244 : Cond.methodLink RX6 164 yX4_find ∈ AW := aw_t2 (i := 175) (by decide +kernel) rfl
set_option maxRecDepth 20000 in
theorem aw_245 : Cond.code yX2_find cX2_find 4 none ∈ AW := aw_t2 (i := 205) (rfl) rfl
set_option maxRecDepth 20000 in
theorem aw_246 : Cond.methodLink RX6 174 yX2_find ∈ AW := aw_t2 (i := 202) (by decide +kernel) rfl
set_option maxRecDepth 20000 in
theorem aw_247 : Cond.methodLink RX6 184 yX0_wordsTo ∈ AW := aw_t2 (i := 222) (by decide +kernel) rfl
set_option maxRecDepth 20000 in
theorem aw_248 : Cond.code yX6_fitting cX6_fitting 8 (some .int) ∈ AW := aw_t3 (i := 2) (rfl) rfl
set_option maxRecDepth 20000 in
theorem aw_249 : Cond.methodLink RX6 190 yX6_fitting ∈ AW := aw_t2 (i := 239) (by decide +kernel) rfl
set_option maxRecDepth 20000 in
theorem aw_250 : Cond.code yX0_readingsAreSo cX0_readingsAreSo 4 (some .boolean) ∈ AW := aw_t3 (i := 6) (rfl) rfl
set_option maxRecDepth 20000 in
theorem aw_251 : Cond.methodLink RX6 193 yX0_readingsAreSo ∈ AW := aw_t3 (i := 3) (by decide +kernel) rfl
set_option maxRecDepth 20000 in
theorem aw_252 : Cond.code yX5_weigh cX5_weigh 6 none ∈ AW := aw_t3 (i := 28) (rfl) rfl
set_option maxRecDepth 20000 in
theorem aw_253 : Cond.methodLink RX6 198 yX5_weigh ∈ AW := aw_t3 (i := 25) (by decide +kernel) rfl
set_option maxRecDepth 20000 in
theorem aw_254 : Cond.code yX1_begin cX1_begin 3 none ∈ AW := aw_t3 (i := 47) (rfl) rfl
set_option maxRecDepth 20000 in
theorem aw_255 : Cond.methodLink RX6 207 yX1_begin ∈ AW := aw_t3 (i := 44) (by decide +kernel) rfl
set_option maxRecDepth 20000 in
theorem aw_256 : Cond.code yX1_empty cX1_empty 2 (some .boolean) ∈ AW := aw_t3 (i := 56) (rfl) rfl
set_option maxRecDepth 20000 in
theorem aw_257 : Cond.methodLink RX6 211 yX1_empty ∈ AW := aw_t3 (i := 53) (by decide +kernel) rfl
set_option maxRecDepth 20000 in
theorem aw_258 : Cond.methodLink RX6 214 yX1_hasNothing ∈ AW := aw_t3 (i := 61) (by decide +kernel) rfl
set_option maxRecDepth 20000 in
theorem aw_259 : Cond.code yX1_cutToLane cX1_cutToLane 2 (some .int) ∈ AW := aw_t3 (i := 65) (rfl) rfl
set_option maxRecDepth 20000 in
theorem aw_260 : Cond.methodLink RX6 217 yX1_cutToLane ∈ AW := aw_t3 (i := 62) (by decide +kernel) rfl
set_option maxRecDepth 20000 in
theorem aw_261 : Cond.code yX6_mitedTells cX6_mitedTells 3 (some .int) ∈ AW := aw_t3 (i := 82) (rfl) rfl
set_option maxRecDepth 20000 in
theorem aw_262 : Cond.methodLink RX6 229 yX6_mitedTells ∈ AW := aw_t3 (i := 79) (by decide +kernel) rfl
set_option maxRecDepth 20000 in
theorem aw_263 : Cond.code yX6_waxedTells cX6_waxedTells 2 (some .int) ∈ AW := aw_t3 (i := 90) (rfl) rfl
set_option maxRecDepth 20000 in
theorem aw_264 : Cond.methodLink RX6 232 yX6_waxedTells ∈ AW := aw_t3 (i := 87) (by decide +kernel) rfl
set_option maxRecDepth 20000 in
theorem aw_265 : Cond.code yX6_plainTells cX6_plainTells 2 (some .int) ∈ AW := aw_t3 (i := 94) (rfl) rfl
set_option maxRecDepth 20000 in
theorem aw_266 : Cond.methodLink RX6 235 yX6_plainTells ∈ AW := aw_t3 (i := 91) (by decide +kernel) rfl
set_option maxRecDepth 20000 in
theorem aw_267 : Cond.code yX6_leave cX6_leave 2 none ∈ AW := aw_t3 (i := 86) (rfl) rfl
set_option maxRecDepth 20000 in
theorem aw_268 : Cond.methodLink RX6 238 yX6_leave ∈ AW := aw_t3 (i := 83) (by decide +kernel) rfl
set_option maxRecDepth 20000 in
theorem aw_269 : Cond.code yX7_within cX7_within 3 (some .boolean) ∈ AW := aw_t3 (i := 230) (rfl) rfl
set_option maxRecDepth 20000 in
theorem aw_270 : Cond.initialized RX7 ∈ AW := aw_t1 (i := 8) (by decide +kernel) rfl
set_option maxRecDepth 20000 in
theorem aw_271 : Cond.methodLink RX7 79 yX7_within ∈ AW := aw_t3 (i := 228) (by decide +kernel) rfl
set_option maxRecDepth 20000 in
theorem aw_272 : Cond.code yX7_isSheet cX7_isSheet 1 (some .boolean) ∈ AW := aw_t3 (i := 227) (rfl) rfl
set_option maxRecDepth 20000 in
theorem aw_273 : Cond.methodLink RX7 95 yX7_isSheet ∈ AW := aw_t3 (i := 225) (by decide +kernel) rfl
set_option maxRecDepth 20000 in
theorem aw_274 : Cond.code yX7_isSort cX7_isSort 1 (some .boolean) ∈ AW := aw_t3 (i := 233) (rfl) rfl
set_option maxRecDepth 20000 in
theorem aw_275 : Cond.methodLink RX7 99 yX7_isSort ∈ AW := aw_t3 (i := 231) (by decide +kernel) rfl
set_option maxRecDepth 20000 in
theorem aw_276 : Cond.code yX7_against cX7_against 5 (some .int) ∈ AW := aw_t3 (i := 237) (rfl) rfl
set_option maxRecDepth 20000 in
theorem aw_277 : Cond.methodLink RX7 102 yX7_against ∈ AW := aw_t3 (i := 234) (by decide +kernel) rfl
set_option maxRecDepth 20000 in
theorem aw_278 : Cond.code yX7_fails cX7_fails 2 (some .int) ∈ AW := aw_t4 (i := 1) (rfl) rfl
set_option maxRecDepth 20000 in
theorem aw_279 : Cond.methodLink RX7 106 yX7_fails ∈ AW := aw_t3 (i := 238) (by decide +kernel) rfl
set_option maxRecDepth 20000 in
theorem aw_280 : Cond.code yX7_readDairy cX7_readDairy 2 (some .boolean) ∈ AW := aw_t4 (i := 5) (rfl) rfl
set_option maxRecDepth 20000 in
theorem aw_281 : Cond.methodLink RX7 110 yX7_readDairy ∈ AW := aw_t4 (i := 2) (by decide +kernel) rfl
set_option maxRecDepth 20000 in
theorem aw_282 : Cond.code yX7_takeDairy cX7_takeDairy 2 none ∈ AW := aw_t4 (i := 25) (rfl) rfl
set_option maxRecDepth 20000 in
theorem aw_283 : Cond.methodLink RX7 113 yX7_takeDairy ∈ AW := aw_t4 (i := 22) (by decide +kernel) rfl
set_option maxRecDepth 20000 in
theorem aw_284 : Cond.code yX7_isSign cX7_isSign 3 (some .boolean) ∈ AW := aw_t4 (i := 9) (rfl) rfl
set_option maxRecDepth 20000 in
theorem aw_285 : Cond.methodLink RX7 131 yX7_isSign ∈ AW := aw_t4 (i := 6) (by decide +kernel) rfl
set_option maxRecDepth 20000 in
theorem aw_286 : Cond.code yX7_digit cX7_digit 4 (some .int) ∈ AW := aw_t4 (i := 13) (rfl) rfl
set_option maxRecDepth 20000 in
theorem aw_287 : Cond.methodLink RX7 135 yX7_digit ∈ AW := aw_t4 (i := 10) (by decide +kernel) rfl
set_option maxRecDepth 20000 in
theorem aw_288 : Cond.code yX7_readOneCheese cX7_readOneCheese 4 (some .boolean) ∈ AW := aw_t4 (i := 17) (rfl) rfl
set_option maxRecDepth 20000 in
theorem aw_289 : Cond.methodLink RX7 139 yX7_readOneCheese ∈ AW := aw_t4 (i := 14) (by decide +kernel) rfl
set_option maxRecDepth 20000 in
theorem aw_290 : Cond.code yX7_readOneTalk cX7_readOneTalk 3 (some .boolean) ∈ AW := aw_t4 (i := 21) (rfl) rfl
set_option maxRecDepth 20000 in
theorem aw_291 : Cond.methodLink RX7 142 yX7_readOneTalk ∈ AW := aw_t4 (i := 18) (by decide +kernel) rfl
set_option maxRecDepth 20000 in
theorem aw_292 : Cond.code yX7_isCheese cX7_isCheese 2 (some .boolean) ∈ AW := aw_t4 (i := 33) (rfl) rfl
set_option maxRecDepth 20000 in
theorem aw_293 : Cond.methodLink RX7 145 yX7_isCheese ∈ AW := aw_t4 (i := 30) (by decide +kernel) rfl
set_option maxRecDepth 20000 in
theorem aw_294 : Cond.code yX7_isTalk cX7_isTalk 2 (some .boolean) ∈ AW := aw_t4 (i := 41) (rfl) rfl
set_option maxRecDepth 20000 in
theorem aw_295 : Cond.methodLink RX7 148 yX7_isTalk ∈ AW := aw_t4 (i := 38) (by decide +kernel) rfl
set_option maxRecDepth 20000 in
theorem aw_296 : Cond.code yX7_isCellar cX7_isCellar 2 (some .boolean) ∈ AW := aw_t4 (i := 49) (rfl) rfl
set_option maxRecDepth 20000 in
theorem aw_297 : Cond.methodLink RX7 151 yX7_isCellar ∈ AW := aw_t4 (i := 46) (by decide +kernel) rfl
set_option maxRecDepth 20000 in
theorem aw_298 : Cond.code yX7_isDay cX7_isDay 1 (some .boolean) ∈ AW := aw_t4 (i := 52) (rfl) rfl
set_option maxRecDepth 20000 in
theorem aw_299 : Cond.methodLink RX7 154 yX7_isDay ∈ AW := aw_t4 (i := 50) (by decide +kernel) rfl
set_option maxRecDepth 20000 in
theorem aw_300 : Cond.code yX7_whereOf cX7_whereOf 6 (some .int) ∈ AW := aw_t4 (i := 68) (rfl) rfl
set_option maxRecDepth 20000 in
theorem aw_301 : Cond.methodLink RX7 157 yX7_whereOf ∈ AW := aw_t4 (i := 65) (by decide +kernel) rfl
set_option maxRecDepth 20000 in
theorem aw_302 : Cond.code yX7_isTurned cX7_isTurned 3 (some .boolean) ∈ AW := aw_t4 (i := 80) (rfl) rfl
set_option maxRecDepth 20000 in
theorem aw_303 : Cond.methodLink RX7 164 yX7_isTurned ∈ AW := aw_t4 (i := 77) (by decide +kernel) rfl
set_option maxRecDepth 20000 in
theorem aw_304 : Cond.code yX7_comes cX7_comes 5 (some .int) ∈ AW := aw_t4 (i := 84) (rfl) rfl
set_option maxRecDepth 20000 in
theorem aw_305 : Cond.methodLink RX7 167 yX7_comes ∈ AW := aw_t4 (i := 81) (by decide +kernel) rfl
set_option maxRecDepth 20000 in
theorem aw_306 : Cond.code yX7_heardBy cX7_heardBy 6 (some .int) ∈ AW := aw_t4 (i := 76) (rfl) rfl
set_option maxRecDepth 20000 in
theorem aw_307 : Cond.methodLink RX7 170 yX7_heardBy ∈ AW := aw_t4 (i := 73) (by decide +kernel) rfl
set_option maxRecDepth 20000 in
theorem aw_308 : Cond.code yX7_layerOf cX7_layerOf 5 (some .int) ∈ AW := aw_t4 (i := 92) (rfl) rfl
set_option maxRecDepth 20000 in
theorem aw_309 : Cond.methodLink RX7 173 yX7_layerOf ∈ AW := aw_t4 (i := 89) (by decide +kernel) rfl
set_option maxRecDepth 20000 in
theorem aw_310 : Cond.code yX7_isWord cX7_isWord 1 (some .boolean) ∈ AW := aw_t4 (i := 99) (rfl) rfl
set_option maxRecDepth 20000 in
theorem aw_311 : Cond.methodLink RX7 176 yX7_isWord ∈ AW := aw_t4 (i := 97) (by decide +kernel) rfl
set_option maxRecDepth 20000 in
theorem aw_312 : Cond.code yX7_size cX7_size 3 (some .int) ∈ AW := aw_t4 (i := 102) (rfl) rfl
set_option maxRecDepth 20000 in
theorem aw_313 : Cond.methodLink RX7 179 yX7_size ∈ AW := aw_t4 (i := 100) (by decide +kernel) rfl
set_option maxRecDepth 20000 in
theorem aw_314 : Cond.code yX7_wordsOf cX7_wordsOf 5 (some .int) ∈ AW := aw_t4 (i := 110) (rfl) rfl
set_option maxRecDepth 20000 in
theorem aw_315 : Cond.methodLink RX7 182 yX7_wordsOf ∈ AW := aw_t4 (i := 107) (by decide +kernel) rfl
set_option maxRecDepth 20000 in
theorem aw_316 : Cond.code yX7_rowsOf cX7_rowsOf 4 (some .int) ∈ AW := aw_t4 (i := 122) (rfl) rfl
set_option maxRecDepth 20000 in
theorem aw_317 : Cond.methodLink RX7 185 yX7_rowsOf ∈ AW := aw_t4 (i := 119) (by decide +kernel) rfl
set_option maxRecDepth 20000 in
theorem aw_318 : Cond.code yX7_layRow cX7_layRow 5 none ∈ AW := aw_t4 (i := 126) (rfl) rfl
set_option maxRecDepth 20000 in
theorem aw_319 : Cond.methodLink RX7 188 yX7_layRow ∈ AW := aw_t4 (i := 123) (by decide +kernel) rfl
set_option maxRecDepth 20000 in
theorem aw_320 : Cond.code yX7_sparedBy cX7_sparedBy 7 (some .int) ∈ AW := aw_t4 (i := 130) (rfl) rfl
set_option maxRecDepth 20000 in
theorem aw_321 : Cond.methodLink RX7 192 yX7_sparedBy ∈ AW := aw_t4 (i := 127) (by decide +kernel) rfl
set_option maxRecDepth 20000 in
theorem aw_322 : Cond.code yX7_keepRow cX7_keepRow 2 none ∈ AW := aw_t4 (i := 134) (rfl) rfl
set_option maxRecDepth 20000 in
theorem aw_323 : Cond.methodLink RX7 195 yX7_keepRow ∈ AW := aw_t4 (i := 131) (by decide +kernel) rfl
set_option maxRecDepth 20000 in
theorem aw_324 : Cond.code yX7_findSpare cX7_findSpare 6 (some .int) ∈ AW := aw_t4 (i := 118) (rfl) rfl
set_option maxRecDepth 20000 in
theorem aw_325 : Cond.methodLink RX7 198 yX7_findSpare ∈ AW := aw_t4 (i := 115) (by decide +kernel) rfl
set_option maxRecDepth 20000 in
theorem aw_326 : Cond.code yX7_wordsHeard cX7_wordsHeard 3 (some .int) ∈ AW := aw_t4 (i := 146) (rfl) rfl
set_option maxRecDepth 20000 in
theorem aw_327 : Cond.methodLink RX7 201 yX7_wordsHeard ∈ AW := aw_t4 (i := 143) (by decide +kernel) rfl
set_option maxRecDepth 20000 in
theorem aw_328 : Cond.code yX7_findShelves cX7_findShelves 5 (some .int) ∈ AW := aw_t4 (i := 142) (rfl) rfl
set_option maxRecDepth 20000 in
theorem aw_329 : Cond.methodLink RX7 205 yX7_findShelves ∈ AW := aw_t4 (i := 139) (by decide +kernel) rfl
set_option maxRecDepth 20000 in
theorem aw_330 : Cond.code yX7_areSo cX7_areSo 3 (some .boolean) ∈ AW := aw_t4 (i := 170) (rfl) rfl
set_option maxRecDepth 20000 in
theorem aw_331 : Cond.methodLink RX7 208 yX7_areSo ∈ AW := aw_t4 (i := 167) (by decide +kernel) rfl
set_option maxRecDepth 20000 in
theorem aw_332 : Cond.code yX7_inLeastTerms cX7_inLeastTerms 11 (some .long) ∈ AW := aw_t4 (i := 190) (rfl) rfl
set_option maxRecDepth 20000 in
theorem aw_333 : Cond.methodLink RX7 212 yX7_inLeastTerms ∈ AW := aw_t4 (i := 188) (by decide +kernel) rfl
set_option maxRecDepth 20000 in
theorem aw_334 : Cond.code yX7_lost cX7_lost 2 (some .long) ∈ AW := aw_t4 (i := 210) (rfl) rfl
set_option maxRecDepth 20000 in
theorem aw_335 : Cond.methodLink RX7 216 yX7_lost ∈ AW := aw_t4 (i := 207) (by decide +kernel) rfl
set_option maxRecDepth 20000 in
theorem aw_336 : Cond.code yX7_begins cX7_begins 2 none ∈ AW := aw_t4 (i := 222) (rfl) rfl
set_option maxRecDepth 20000 in
theorem aw_337 : Cond.methodLink RX7 223 yX7_begins ∈ AW := aw_t4 (i := 219) (by decide +kernel) rfl
set_option maxRecDepth 20000 in
theorem aw_338 : Cond.instanceMethod yX0_begins ∈ AW := aw_t2 (i := 42) (by decide +kernel) rfl
set_option maxRecDepth 20000 in
theorem aw_339 : Cond.selects RX0 yX0_begins yX0_begins ∈ AW := aw_t0 (i := 2) (by decide +kernel) rfl
set_option maxRecDepth 20000 in
theorem aw_340 : Cond.instanceMethod yX0_carriedTo ∈ AW := aw_t2 (i := 64) (by decide +kernel) rfl
set_option maxRecDepth 20000 in
theorem aw_341 : Cond.selects RX0 yX0_carriedTo yX0_carriedTo ∈ AW := aw_t0 (i := 5) (by decide +kernel) rfl
set_option maxRecDepth 20000 in
theorem aw_342 : Cond.instanceMethod yX0_carry ∈ AW := aw_t2 (i := 59) (by decide +kernel) rfl
set_option maxRecDepth 20000 in
theorem aw_343 : Cond.selects RX0 yX0_carry yX0_carry ∈ AW := aw_t2 (i := 60) (by decide +kernel) rfl
set_option maxRecDepth 20000 in
theorem aw_344 : Cond.instanceMethod yX0_catches ∈ AW := aw_t2 (i := 124) (by decide +kernel) rfl
set_option maxRecDepth 20000 in
theorem aw_345 : Cond.selects RX0 yX0_catches yX0_catches ∈ AW := aw_t2 (i := 125) (by decide +kernel) rfl
set_option maxRecDepth 20000 in
theorem aw_346 : Cond.instanceMethod yX0_cellarOn ∈ AW := aw_t2 (i := 111) (by decide +kernel) rfl
set_option maxRecDepth 20000 in
theorem aw_347 : Cond.selects RX0 yX0_cellarOn yX0_cellarOn ∈ AW := aw_t2 (i := 112) (by decide +kernel) rfl
set_option maxRecDepth 20000 in
theorem aw_348 : Cond.instanceMethod yX0_cheeseGoesOn ∈ AW := aw_t2 (i := 46) (by decide +kernel) rfl
set_option maxRecDepth 20000 in
theorem aw_349 : Cond.selects RX0 yX0_cheeseGoesOn yX0_cheeseGoesOn ∈ AW := aw_t0 (i := 3) (by decide +kernel) rfl
set_option maxRecDepth 20000 in
theorem aw_350 : Cond.instanceMethod yX0_depthOf ∈ AW := aw_t2 (i := 149) (by decide +kernel) rfl
set_option maxRecDepth 20000 in
theorem aw_351 : Cond.selects RX0 yX0_depthOf yX0_depthOf ∈ AW := aw_t2 (i := 150) (by decide +kernel) rfl
set_option maxRecDepth 20000 in
theorem aw_352 : Cond.instanceMethod yX0_goesOn ∈ AW := aw_t2 (i := 35) (by decide +kernel) rfl
set_option maxRecDepth 20000 in
theorem aw_353 : Cond.selects RX0 yX0_goesOn yX0_goesOn ∈ AW := aw_t0 (i := 1) (by decide +kernel) rfl
set_option maxRecDepth 20000 in
theorem aw_354 : Cond.instanceMethod yX0_readingsAreSo ∈ AW := aw_t3 (i := 4) (by decide +kernel) rfl
set_option maxRecDepth 20000 in
theorem aw_355 : Cond.selects RX0 yX0_readingsAreSo yX0_readingsAreSo ∈ AW := aw_t3 (i := 5) (by decide +kernel) rfl
set_option maxRecDepth 20000 in
theorem aw_356 : Cond.instanceMethod yX0_takeText ∈ AW := aw_t2 (i := 30) (by decide +kernel) rfl
set_option maxRecDepth 20000 in
theorem aw_357 : Cond.selects RX0 yX0_takeText yX0_takeText ∈ AW := aw_t2 (i := 31) (by decide +kernel) rfl
set_option maxRecDepth 20000 in
theorem aw_358 : Cond.instanceMethod yX0_talkAt ∈ AW := aw_t2 (i := 138) (by decide +kernel) rfl
set_option maxRecDepth 20000 in
theorem aw_359 : Cond.selects RX0 yX0_talkAt yX0_talkAt ∈ AW := aw_t2 (i := 139) (by decide +kernel) rfl
set_option maxRecDepth 20000 in
theorem aw_360 : Cond.instanceMethod yX0_talkGoesOn ∈ AW := aw_t2 (i := 53) (by decide +kernel) rfl
set_option maxRecDepth 20000 in
theorem aw_361 : Cond.selects RX0 yX0_talkGoesOn yX0_talkGoesOn ∈ AW := aw_t0 (i := 4) (by decide +kernel) rfl
set_option maxRecDepth 20000 in
theorem aw_362 : Cond.instanceMethod yX0_talksTo ∈ AW := aw_t2 (i := 119) (by decide +kernel) rfl
set_option maxRecDepth 20000 in
theorem aw_363 : Cond.selects RX0 yX0_talksTo yX0_talksTo ∈ AW := aw_t2 (i := 120) (by decide +kernel) rfl
set_option maxRecDepth 20000 in
theorem aw_364 : Cond.instanceMethod yX0_wordsDown ∈ AW := aw_t2 (i := 165) (by decide +kernel) rfl
set_option maxRecDepth 20000 in
theorem aw_365 : Cond.selects RX0 yX0_wordsDown yX0_wordsDown ∈ AW := aw_t2 (i := 166) (by decide +kernel) rfl
set_option maxRecDepth 20000 in
theorem aw_366 : Cond.instanceMethod yX0_wordsTo ∈ AW := aw_t2 (i := 207) (by decide +kernel) rfl
set_option maxRecDepth 20000 in
theorem aw_367 : Cond.selects RX0 yX0_wordsTo yX0_wordsTo ∈ AW := aw_t2 (i := 208) (by decide +kernel) rfl
set_option maxRecDepth 20000 in
theorem aw_368 : Cond.instanceMethod yX1_begin ∈ AW := aw_t3 (i := 45) (by decide +kernel) rfl
set_option maxRecDepth 20000 in
theorem aw_369 : Cond.selects RX1 yX1_begin yX1_begin ∈ AW := aw_t3 (i := 46) (by decide +kernel) rfl
set_option maxRecDepth 20000 in
theorem aw_370 : Cond.instanceMethod yX1_cutToLane ∈ AW := aw_t3 (i := 63) (by decide +kernel) rfl
set_option maxRecDepth 20000 in
theorem aw_371 : Cond.selects RX1 yX1_cutToLane yX1_cutToLane ∈ AW := aw_t3 (i := 64) (by decide +kernel) rfl
set_option maxRecDepth 20000 in
theorem aw_372 : Cond.instanceMethod yX1_empty ∈ AW := aw_t3 (i := 54) (by decide +kernel) rfl
set_option maxRecDepth 20000 in
theorem aw_373 : Cond.selects RX1 yX1_empty yX1_empty ∈ AW := aw_t3 (i := 55) (by decide +kernel) rfl
set_option maxRecDepth 20000 in
theorem aw_374 : Cond.instanceMethod yX1_faultAs ∈ AW := aw_t2 (i := 14) (by decide +kernel) rfl
set_option maxRecDepth 20000 in
theorem aw_375 : Cond.selects RX1 yX1_faultAs yX1_faultAs ∈ AW := aw_t2 (i := 15) (by decide +kernel) rfl
set_option maxRecDepth 20000 in
theorem aw_376 : Cond.instanceMethod yX1_hasCells ∈ AW := aw_t2 (i := 22) (by decide +kernel) rfl
set_option maxRecDepth 20000 in
theorem aw_377 : Cond.selects RX1 yX1_hasCells yX1_hasCells ∈ AW := aw_t2 (i := 23) (by decide +kernel) rfl
set_option maxRecDepth 20000 in
theorem aw_378 : Cond.instanceMethod yX1_hasNothing ∈ AW := aw_t2 (i := 18) (by decide +kernel) rfl
set_option maxRecDepth 20000 in
theorem aw_379 : Cond.selects RX1 yX1_hasNothing yX1_hasNothing ∈ AW := aw_t2 (i := 19) (by decide +kernel) rfl
set_option maxRecDepth 20000 in
theorem aw_380 : Cond.instanceMethod yX2_find ∈ AW := aw_t2 (i := 203) (by decide +kernel) rfl
set_option maxRecDepth 20000 in
theorem aw_381 : Cond.selects RX2 yX2_find yX2_find ∈ AW := aw_t2 (i := 204) (by decide +kernel) rfl
set_option maxRecDepth 20000 in
theorem aw_382 : Cond.instanceMethod yX2_shelveFrom ∈ AW := aw_t2 (i := 214) (by decide +kernel) rfl
set_option maxRecDepth 20000 in
theorem aw_383 : Cond.selects RX2 yX2_shelveFrom yX2_shelveFrom ∈ AW := aw_t0 (i := 12) (by decide +kernel) rfl
set_option maxRecDepth 20000 in
theorem aw_384 : Cond.instanceMethod yX3_add ∈ AW := aw_t2 (i := 90) (by decide +kernel) rfl
set_option maxRecDepth 20000 in
theorem aw_385 : Cond.selects RX3 yX3_add yX3_add ∈ AW := aw_t2 (i := 91) (by decide +kernel) rfl
set_option maxRecDepth 20000 in
theorem aw_386 : Cond.instanceMethod yX3_takeBack ∈ AW := aw_t2 (i := 99) (by decide +kernel) rfl
set_option maxRecDepth 20000 in
theorem aw_387 : Cond.selects RX3 yX3_takeBack yX3_takeBack ∈ AW := aw_t2 (i := 100) (by decide +kernel) rfl
set_option maxRecDepth 20000 in
theorem aw_388 : Cond.instanceMethod yX4_cutFrom ∈ AW := aw_t2 (i := 193) (by decide +kernel) rfl
set_option maxRecDepth 20000 in
theorem aw_389 : Cond.selects RX4 yX4_cutFrom yX4_cutFrom ∈ AW := aw_t0 (i := 11) (by decide +kernel) rfl
set_option maxRecDepth 20000 in
theorem aw_390 : Cond.instanceMethod yX4_find ∈ AW := aw_t2 (i := 176) (by decide +kernel) rfl
set_option maxRecDepth 20000 in
theorem aw_391 : Cond.selects RX4 yX4_find yX4_find ∈ AW := aw_t2 (i := 177) (by decide +kernel) rfl
set_option maxRecDepth 20000 in
theorem aw_392 : Cond.instanceMethod yX4_measure ∈ AW := aw_t2 (i := 181) (by decide +kernel) rfl
set_option maxRecDepth 20000 in
theorem aw_393 : Cond.selects RX4 yX4_measure yX4_measure ∈ AW := aw_t0 (i := 10) (by decide +kernel) rfl
set_option maxRecDepth 20000 in
theorem aw_394 : Cond.instanceMethod yX5_reduce ∈ AW := aw_t3 (i := 38) (by decide +kernel) rfl
set_option maxRecDepth 20000 in
theorem aw_395 : Cond.selects RX5 yX5_reduce yX5_reduce ∈ AW := aw_t0 (i := 15) (by decide +kernel) rfl
set_option maxRecDepth 20000 in
theorem aw_396 : Cond.instanceMethod yX5_spread ∈ AW := aw_t3 (i := 32) (by decide +kernel) rfl
set_option maxRecDepth 20000 in
theorem aw_397 : Cond.selects RX5 yX5_spread yX5_spread ∈ AW := aw_t0 (i := 14) (by decide +kernel) rfl
set_option maxRecDepth 20000 in
theorem aw_398 : Cond.instanceMethod yX5_weigh ∈ AW := aw_t3 (i := 26) (by decide +kernel) rfl
set_option maxRecDepth 20000 in
theorem aw_399 : Cond.selects RX5 yX5_weigh yX5_weigh ∈ AW := aw_t3 (i := 27) (by decide +kernel) rfl
set_option maxRecDepth 20000 in
theorem aw_400 : Cond.instanceMethod yX6_cutPairs ∈ AW := aw_t2 (i := 162) (by decide +kernel) rfl
set_option maxRecDepth 20000 in
theorem aw_401 : Cond.selects RX6 yX6_cutPairs yX6_cutPairs ∈ AW := aw_t0 (i := 9) (by decide +kernel) rfl
set_option maxRecDepth 20000 in
theorem aw_402 : Cond.instanceMethod yX6_faulty ∈ AW := aw_t2 (i := 27) (by decide +kernel) rfl
set_option maxRecDepth 20000 in
theorem aw_403 : Cond.selects RX6 yX6_faulty yX6_faulty ∈ AW := aw_t0 (i := 0) (by decide +kernel) rfl
set_option maxRecDepth 20000 in
theorem aw_404 : Cond.instanceMethod yX6_fitting ∈ AW := aw_t3 (i := 1) (by decide +kernel) rfl
set_option maxRecDepth 20000 in
theorem aw_405 : Cond.selects RX6 yX6_fitting yX6_fitting ∈ AW := aw_t0 (i := 13) (by decide +kernel) rfl
set_option maxRecDepth 20000 in
theorem aw_406 : Cond.instanceMethod yX6_hasNoDairy ∈ AW := aw_t2 (i := 158) (by decide +kernel) rfl
set_option maxRecDepth 20000 in
theorem aw_407 : Cond.selects RX6 yX6_hasNoDairy yX6_hasNoDairy ∈ AW := aw_t0 (i := 8) (by decide +kernel) rfl
set_option maxRecDepth 20000 in
theorem aw_408 : Cond.instanceMethod yX6_isCheese ∈ AW := aw_t2 (i := 72) (by decide +kernel) rfl
set_option maxRecDepth 20000 in
theorem aw_409 : Cond.selects RX6 yX6_isCheese yX6_isCheese ∈ AW := aw_t0 (i := 6) (by decide +kernel) rfl
set_option maxRecDepth 20000 in
theorem aw_410 : Cond.instanceMethod yX6_isTalk ∈ AW := aw_t2 (i := 80) (by decide +kernel) rfl
set_option maxRecDepth 20000 in
theorem aw_411 : Cond.selects RX6 yX6_isTalk yX6_isTalk ∈ AW := aw_t0 (i := 7) (by decide +kernel) rfl
set_option maxRecDepth 20000 in
theorem aw_412 : Cond.instanceMethod yX6_leave ∈ AW := aw_t3 (i := 85) (by decide +kernel) rfl
set_option maxRecDepth 20000 in
theorem aw_413 : Cond.selects RX6 yX6_leave yX6_leave ∈ AW := aw_t0 (i := 17) (by decide +kernel) rfl
set_option maxRecDepth 20000 in
theorem aw_414 : Cond.instanceMethod yX6_mitedTells ∈ AW := aw_t3 (i := 81) (by decide +kernel) rfl
set_option maxRecDepth 20000 in
theorem aw_415 : Cond.selects RX6 yX6_mitedTells yX6_mitedTells ∈ AW := aw_t0 (i := 16) (by decide +kernel) rfl
set_option maxRecDepth 20000 in
theorem aw_416 : Cond.instanceMethod yX6_plainTells ∈ AW := aw_t3 (i := 93) (by decide +kernel) rfl
set_option maxRecDepth 20000 in
theorem aw_417 : Cond.selects RX6 yX6_plainTells yX6_plainTells ∈ AW := aw_t0 (i := 19) (by decide +kernel) rfl
set_option maxRecDepth 20000 in
theorem aw_418 : Cond.instanceMethod yX6_waxedTells ∈ AW := aw_t3 (i := 89) (by decide +kernel) rfl
set_option maxRecDepth 20000 in
theorem aw_419 : Cond.selects RX6 yX6_waxedTells yX6_waxedTells ∈ AW := aw_t0 (i := 18) (by decide +kernel) rfl
set_option maxRecDepth 20000 in
theorem aw_420 : Cond.instanceMethod yX7_against ∈ AW := aw_t3 (i := 236) (by decide +kernel) rfl
set_option maxRecDepth 20000 in
theorem aw_421 : Cond.selects RX7 yX7_against yX7_against ∈ AW := aw_t0 (i := 20) (by decide +kernel) rfl
set_option maxRecDepth 20000 in
theorem aw_422 : Cond.instanceMethod yX7_areSo ∈ AW := aw_t4 (i := 169) (by decide +kernel) rfl
set_option maxRecDepth 20000 in
theorem aw_423 : Cond.selects RX7 yX7_areSo yX7_areSo ∈ AW := aw_t0 (i := 44) (by decide +kernel) rfl
set_option maxRecDepth 20000 in
theorem aw_424 : Cond.instanceMethod yX7_begins ∈ AW := aw_t4 (i := 221) (by decide +kernel) rfl
set_option maxRecDepth 20000 in
theorem aw_425 : Cond.selects RX7 yX7_begins yX7_begins ∈ AW := aw_t0 (i := 46) (by decide +kernel) rfl
set_option maxRecDepth 20000 in
theorem aw_426 : Cond.instanceMethod yX7_comes ∈ AW := aw_t4 (i := 83) (by decide +kernel) rfl
set_option maxRecDepth 20000 in
theorem aw_427 : Cond.selects RX7 yX7_comes yX7_comes ∈ AW := aw_t0 (i := 34) (by decide +kernel) rfl
set_option maxRecDepth 20000 in
theorem aw_428 : Cond.instanceMethod yX7_digit ∈ AW := aw_t4 (i := 12) (by decide +kernel) rfl
set_option maxRecDepth 20000 in
theorem aw_429 : Cond.selects RX7 yX7_digit yX7_digit ∈ AW := aw_t0 (i := 24) (by decide +kernel) rfl
set_option maxRecDepth 20000 in
theorem aw_430 : Cond.instanceMethod yX7_fails ∈ AW := aw_t4 (i := 0) (by decide +kernel) rfl
set_option maxRecDepth 20000 in
theorem aw_431 : Cond.selects RX7 yX7_fails yX7_fails ∈ AW := aw_t0 (i := 21) (by decide +kernel) rfl
set_option maxRecDepth 20000 in
theorem aw_432 : Cond.instanceMethod yX7_findShelves ∈ AW := aw_t4 (i := 141) (by decide +kernel) rfl
set_option maxRecDepth 20000 in
theorem aw_433 : Cond.selects RX7 yX7_findShelves yX7_findShelves ∈ AW := aw_t0 (i := 42) (by decide +kernel) rfl
set_option maxRecDepth 20000 in
theorem aw_434 : Cond.instanceMethod yX7_findSpare ∈ AW := aw_t4 (i := 117) (by decide +kernel) rfl
set_option maxRecDepth 20000 in
theorem aw_435 : Cond.selects RX7 yX7_findSpare yX7_findSpare ∈ AW := aw_t0 (i := 37) (by decide +kernel) rfl
set_option maxRecDepth 20000 in
theorem aw_436 : Cond.instanceMethod yX7_heardBy ∈ AW := aw_t4 (i := 75) (by decide +kernel) rfl
set_option maxRecDepth 20000 in
theorem aw_437 : Cond.selects RX7 yX7_heardBy yX7_heardBy ∈ AW := aw_t0 (i := 32) (by decide +kernel) rfl
set_option maxRecDepth 20000 in
theorem aw_438 : Cond.instanceMethod yX7_isCellar ∈ AW := aw_t4 (i := 48) (by decide +kernel) rfl
set_option maxRecDepth 20000 in
theorem aw_439 : Cond.selects RX7 yX7_isCellar yX7_isCellar ∈ AW := aw_t0 (i := 30) (by decide +kernel) rfl
set_option maxRecDepth 20000 in
theorem aw_440 : Cond.instanceMethod yX7_isCheese ∈ AW := aw_t4 (i := 32) (by decide +kernel) rfl
set_option maxRecDepth 20000 in
theorem aw_441 : Cond.selects RX7 yX7_isCheese yX7_isCheese ∈ AW := aw_t0 (i := 28) (by decide +kernel) rfl
set_option maxRecDepth 20000 in
theorem aw_442 : Cond.instanceMethod yX7_isSign ∈ AW := aw_t4 (i := 8) (by decide +kernel) rfl
set_option maxRecDepth 20000 in
theorem aw_443 : Cond.selects RX7 yX7_isSign yX7_isSign ∈ AW := aw_t0 (i := 23) (by decide +kernel) rfl
set_option maxRecDepth 20000 in
theorem aw_444 : Cond.instanceMethod yX7_isTalk ∈ AW := aw_t4 (i := 40) (by decide +kernel) rfl
set_option maxRecDepth 20000 in
theorem aw_445 : Cond.selects RX7 yX7_isTalk yX7_isTalk ∈ AW := aw_t0 (i := 29) (by decide +kernel) rfl
set_option maxRecDepth 20000 in
theorem aw_446 : Cond.instanceMethod yX7_isTurned ∈ AW := aw_t4 (i := 79) (by decide +kernel) rfl
set_option maxRecDepth 20000 in
theorem aw_447 : Cond.selects RX7 yX7_isTurned yX7_isTurned ∈ AW := aw_t0 (i := 33) (by decide +kernel) rfl
set_option maxRecDepth 20000 in
theorem aw_448 : Cond.instanceMethod yX7_keepRow ∈ AW := aw_t4 (i := 133) (by decide +kernel) rfl
set_option maxRecDepth 20000 in
theorem aw_449 : Cond.selects RX7 yX7_keepRow yX7_keepRow ∈ AW := aw_t0 (i := 41) (by decide +kernel) rfl
set_option maxRecDepth 20000 in
theorem aw_450 : Cond.instanceMethod yX7_layRow ∈ AW := aw_t4 (i := 125) (by decide +kernel) rfl
set_option maxRecDepth 20000 in
theorem aw_451 : Cond.selects RX7 yX7_layRow yX7_layRow ∈ AW := aw_t0 (i := 39) (by decide +kernel) rfl
set_option maxRecDepth 20000 in
theorem aw_452 : Cond.instanceMethod yX7_layerOf ∈ AW := aw_t4 (i := 91) (by decide +kernel) rfl
set_option maxRecDepth 20000 in
theorem aw_453 : Cond.selects RX7 yX7_layerOf yX7_layerOf ∈ AW := aw_t0 (i := 35) (by decide +kernel) rfl
set_option maxRecDepth 20000 in
theorem aw_454 : Cond.instanceMethod yX7_lost ∈ AW := aw_t4 (i := 209) (by decide +kernel) rfl
set_option maxRecDepth 20000 in
theorem aw_455 : Cond.selects RX7 yX7_lost yX7_lost ∈ AW := aw_t0 (i := 45) (by decide +kernel) rfl
set_option maxRecDepth 20000 in
theorem aw_456 : Cond.instanceMethod yX7_readDairy ∈ AW := aw_t4 (i := 4) (by decide +kernel) rfl
set_option maxRecDepth 20000 in
theorem aw_457 : Cond.selects RX7 yX7_readDairy yX7_readDairy ∈ AW := aw_t0 (i := 22) (by decide +kernel) rfl
set_option maxRecDepth 20000 in
theorem aw_458 : Cond.instanceMethod yX7_readOneCheese ∈ AW := aw_t4 (i := 16) (by decide +kernel) rfl
set_option maxRecDepth 20000 in
theorem aw_459 : Cond.selects RX7 yX7_readOneCheese yX7_readOneCheese ∈ AW := aw_t0 (i := 25) (by decide +kernel) rfl
set_option maxRecDepth 20000 in
theorem aw_460 : Cond.instanceMethod yX7_readOneTalk ∈ AW := aw_t4 (i := 20) (by decide +kernel) rfl
set_option maxRecDepth 20000 in
theorem aw_461 : Cond.selects RX7 yX7_readOneTalk yX7_readOneTalk ∈ AW := aw_t0 (i := 26) (by decide +kernel) rfl
set_option maxRecDepth 20000 in
theorem aw_462 : Cond.instanceMethod yX7_rowsOf ∈ AW := aw_t4 (i := 121) (by decide +kernel) rfl
set_option maxRecDepth 20000 in
theorem aw_463 : Cond.selects RX7 yX7_rowsOf yX7_rowsOf ∈ AW := aw_t0 (i := 38) (by decide +kernel) rfl
set_option maxRecDepth 20000 in
theorem aw_464 : Cond.instanceMethod yX7_sparedBy ∈ AW := aw_t4 (i := 129) (by decide +kernel) rfl
set_option maxRecDepth 20000 in
theorem aw_465 : Cond.selects RX7 yX7_sparedBy yX7_sparedBy ∈ AW := aw_t0 (i := 40) (by decide +kernel) rfl
set_option maxRecDepth 20000 in
theorem aw_466 : Cond.instanceMethod yX7_takeDairy ∈ AW := aw_t4 (i := 24) (by decide +kernel) rfl
set_option maxRecDepth 20000 in
theorem aw_467 : Cond.selects RX7 yX7_takeDairy yX7_takeDairy ∈ AW := aw_t0 (i := 27) (by decide +kernel) rfl
set_option maxRecDepth 20000 in
theorem aw_468 : Cond.instanceMethod yX7_whereOf ∈ AW := aw_t4 (i := 67) (by decide +kernel) rfl
set_option maxRecDepth 20000 in
theorem aw_469 : Cond.selects RX7 yX7_whereOf yX7_whereOf ∈ AW := aw_t0 (i := 31) (by decide +kernel) rfl
set_option maxRecDepth 20000 in
theorem aw_470 : Cond.instanceMethod yX7_wordsHeard ∈ AW := aw_t4 (i := 145) (by decide +kernel) rfl
set_option maxRecDepth 20000 in
theorem aw_471 : Cond.selects RX7 yX7_wordsHeard yX7_wordsHeard ∈ AW := aw_t0 (i := 43) (by decide +kernel) rfl
set_option maxRecDepth 20000 in
theorem aw_472 : Cond.instanceMethod yX7_wordsOf ∈ AW := aw_t4 (i := 109) (by decide +kernel) rfl
set_option maxRecDepth 20000 in
theorem aw_473 : Cond.selects RX7 yX7_wordsOf yX7_wordsOf ∈ AW := aw_t0 (i := 36) (by decide +kernel) rfl
set_option maxRecDepth 20000 in
theorem il_X0_0 : u_lay RX0 TX0 0 ∈ AW := aw_t1 (i := 172) (by decide +kernel) (by decide +kernel)
set_option maxRecDepth 20000 in
theorem il_X0_1 : u_lay RX0 TX0 1 ∈ AW := aw_t1 (i := 174) (by decide +kernel) (by decide +kernel)
set_option maxRecDepth 20000 in
theorem il_X0_2 : u_lay RX0 TX0 2 ∈ AW := aw_t1 (i := 176) (by decide +kernel) (by decide +kernel)
set_option maxRecDepth 20000 in
theorem il_X0_3 : u_lay RX0 TX0 3 ∈ AW := aw_t1 (i := 178) (by decide +kernel) (by decide +kernel)
set_option maxRecDepth 20000 in
theorem il_X0_4 : u_lay RX0 TX0 4 ∈ AW := aw_t1 (i := 180) (by decide +kernel) (by decide +kernel)
set_option maxRecDepth 20000 in
theorem il_X0_5 : u_lay RX0 TX0 5 ∈ AW := aw_t1 (i := 182) (by decide +kernel) (by decide +kernel)
set_option maxRecDepth 20000 in
theorem il_X0_6 : u_lay RX0 TX0 6 ∈ AW := aw_t1 (i := 184) (by decide +kernel) (by decide +kernel)
set_option maxRecDepth 20000 in
theorem il_X0_7 : u_lay RX0 TX0 7 ∈ AW := aw_t1 (i := 186) (by decide +kernel) (by decide +kernel)
set_option maxRecDepth 20000 in
theorem il_X0_8 : u_lay RX0 TX0 8 ∈ AW := aw_t1 (i := 188) (by decide +kernel) (by decide +kernel)
set_option maxRecDepth 20000 in
theorem il_X0_9 : u_lay RX0 TX0 9 ∈ AW := aw_t1 (i := 190) (by decide +kernel) (by decide +kernel)
set_option maxRecDepth 20000 in
theorem il_X0_10 : u_lay RX0 TX0 10 ∈ AW := aw_t1 (i := 192) (by decide +kernel) (by decide +kernel)
set_option maxRecDepth 20000 in
theorem il_X0_11 : u_lay RX0 TX0 11 ∈ AW := aw_t1 (i := 194) (by decide +kernel) (by decide +kernel)
set_option maxRecDepth 20000 in
theorem il_X0_12 : u_lay RX0 TX0 12 ∈ AW := aw_t1 (i := 196) (by decide +kernel) (by decide +kernel)
set_option maxRecDepth 20000 in
theorem il_X0_13 : u_lay RX0 TX0 13 ∈ AW := aw_t1 (i := 198) (by decide +kernel) (by decide +kernel)
set_option maxRecDepth 20000 in
theorem il_X0 : ∀ w ∈ u_ws RX0 TX0 14, w ∈ AW := by
  intro w hw
  obtain ⟨k, hk, rfl⟩ := List.mem_map.mp hw
  have hk := List.mem_range.mp hk
  match k, hk with
  | 0, _ => exact il_X0_0
  | 1, _ => exact il_X0_1
  | 2, _ => exact il_X0_2
  | 3, _ => exact il_X0_3
  | 4, _ => exact il_X0_4
  | 5, _ => exact il_X0_5
  | 6, _ => exact il_X0_6
  | 7, _ => exact il_X0_7
  | 8, _ => exact il_X0_8
  | 9, _ => exact il_X0_9
  | 10, _ => exact il_X0_10
  | 11, _ => exact il_X0_11
  | 12, _ => exact il_X0_12
  | 13, _ => exact il_X0_13
  | k + 14, h => exact absurd h (by omega)
set_option maxRecDepth 20000 in
theorem il_X1_0 : u_lay RX1 TX1 0 ∈ AW := aw_t1 (i := 211) (by decide +kernel) (by decide +kernel)
set_option maxRecDepth 20000 in
theorem il_X1_1 : u_lay RX1 TX1 1 ∈ AW := aw_t1 (i := 213) (by decide +kernel) (by decide +kernel)
set_option maxRecDepth 20000 in
theorem il_X1_2 : u_lay RX1 TX1 2 ∈ AW := aw_t1 (i := 215) (by decide +kernel) (by decide +kernel)
set_option maxRecDepth 20000 in
theorem il_X1 : ∀ w ∈ u_ws RX1 TX1 3, w ∈ AW := by
  intro w hw
  obtain ⟨k, hk, rfl⟩ := List.mem_map.mp hw
  have hk := List.mem_range.mp hk
  match k, hk with
  | 0, _ => exact il_X1_0
  | 1, _ => exact il_X1_1
  | 2, _ => exact il_X1_2
  | k + 3, h => exact absurd h (by omega)
set_option maxRecDepth 20000 in
theorem il_X2_0 : u_lay RX2 TX2 0 ∈ AW := aw_t1 (i := 74) (by decide +kernel) (by decide +kernel)
set_option maxRecDepth 20000 in
theorem il_X2_1 : u_lay RX2 TX2 1 ∈ AW := aw_t1 (i := 76) (by decide +kernel) (by decide +kernel)
set_option maxRecDepth 20000 in
theorem il_X2_2 : u_lay RX2 TX2 2 ∈ AW := aw_t1 (i := 78) (by decide +kernel) (by decide +kernel)
set_option maxRecDepth 20000 in
theorem il_X2_3 : u_lay RX2 TX2 3 ∈ AW := aw_t1 (i := 80) (by decide +kernel) (by decide +kernel)
set_option maxRecDepth 20000 in
theorem il_X2_4 : u_lay RX2 TX2 4 ∈ AW := aw_t1 (i := 82) (by decide +kernel) (by decide +kernel)
set_option maxRecDepth 20000 in
theorem il_X2_5 : u_lay RX2 TX2 5 ∈ AW := aw_t1 (i := 84) (by decide +kernel) (by decide +kernel)
set_option maxRecDepth 20000 in
theorem il_X2 : ∀ w ∈ u_ws RX2 TX2 6, w ∈ AW := by
  intro w hw
  obtain ⟨k, hk, rfl⟩ := List.mem_map.mp hw
  have hk := List.mem_range.mp hk
  match k, hk with
  | 0, _ => exact il_X2_0
  | 1, _ => exact il_X2_1
  | 2, _ => exact il_X2_2
  | 3, _ => exact il_X2_3
  | 4, _ => exact il_X2_4
  | 5, _ => exact il_X2_5
  | k + 6, h => exact absurd h (by omega)
set_option maxRecDepth 20000 in
theorem il_X3_0 : u_lay RX3 TX3 0 ∈ AW := aw_t1 (i := 129) (by decide +kernel) (by decide +kernel)
set_option maxRecDepth 20000 in
theorem il_X3_1 : u_lay RX3 TX3 1 ∈ AW := aw_t1 (i := 131) (by decide +kernel) (by decide +kernel)
set_option maxRecDepth 20000 in
theorem il_X3_2 : u_lay RX3 TX3 2 ∈ AW := aw_t1 (i := 133) (by decide +kernel) (by decide +kernel)
set_option maxRecDepth 20000 in
theorem il_X3_3 : u_lay RX3 TX3 3 ∈ AW := aw_t1 (i := 135) (by decide +kernel) (by decide +kernel)
set_option maxRecDepth 20000 in
theorem il_X3 : ∀ w ∈ u_ws RX3 TX3 4, w ∈ AW := by
  intro w hw
  obtain ⟨k, hk, rfl⟩ := List.mem_map.mp hw
  have hk := List.mem_range.mp hk
  match k, hk with
  | 0, _ => exact il_X3_0
  | 1, _ => exact il_X3_1
  | 2, _ => exact il_X3_2
  | 3, _ => exact il_X3_3
  | k + 4, h => exact absurd h (by omega)
set_option maxRecDepth 20000 in
theorem il_X4_0 : u_lay RX4 TX4 0 ∈ AW := aw_t1 (i := 41) (by decide +kernel) (by decide +kernel)
set_option maxRecDepth 20000 in
theorem il_X4_1 : u_lay RX4 TX4 1 ∈ AW := aw_t1 (i := 43) (by decide +kernel) (by decide +kernel)
set_option maxRecDepth 20000 in
theorem il_X4_2 : u_lay RX4 TX4 2 ∈ AW := aw_t1 (i := 45) (by decide +kernel) (by decide +kernel)
set_option maxRecDepth 20000 in
theorem il_X4_3 : u_lay RX4 TX4 3 ∈ AW := aw_t1 (i := 47) (by decide +kernel) (by decide +kernel)
set_option maxRecDepth 20000 in
theorem il_X4_4 : u_lay RX4 TX4 4 ∈ AW := aw_t1 (i := 49) (by decide +kernel) (by decide +kernel)
set_option maxRecDepth 20000 in
theorem il_X4_5 : u_lay RX4 TX4 5 ∈ AW := aw_t1 (i := 51) (by decide +kernel) (by decide +kernel)
set_option maxRecDepth 20000 in
theorem il_X4_6 : u_lay RX4 TX4 6 ∈ AW := aw_t1 (i := 53) (by decide +kernel) (by decide +kernel)
set_option maxRecDepth 20000 in
theorem il_X4_7 : u_lay RX4 TX4 7 ∈ AW := aw_t1 (i := 55) (by decide +kernel) (by decide +kernel)
set_option maxRecDepth 20000 in
theorem il_X4 : ∀ w ∈ u_ws RX4 TX4 8, w ∈ AW := by
  intro w hw
  obtain ⟨k, hk, rfl⟩ := List.mem_map.mp hw
  have hk := List.mem_range.mp hk
  match k, hk with
  | 0, _ => exact il_X4_0
  | 1, _ => exact il_X4_1
  | 2, _ => exact il_X4_2
  | 3, _ => exact il_X4_3
  | 4, _ => exact il_X4_4
  | 5, _ => exact il_X4_5
  | 6, _ => exact il_X4_6
  | 7, _ => exact il_X4_7
  | k + 8, h => exact absurd h (by omega)
set_option maxRecDepth 20000 in
theorem il_X5_0 : u_lay RX5 TX5 0 ∈ AW := aw_t1 (i := 99) (by decide +kernel) (by decide +kernel)
set_option maxRecDepth 20000 in
theorem il_X5_1 : u_lay RX5 TX5 1 ∈ AW := aw_t1 (i := 101) (by decide +kernel) (by decide +kernel)
set_option maxRecDepth 20000 in
theorem il_X5_2 : u_lay RX5 TX5 2 ∈ AW := aw_t1 (i := 103) (by decide +kernel) (by decide +kernel)
set_option maxRecDepth 20000 in
theorem il_X5_3 : u_lay RX5 TX5 3 ∈ AW := aw_t1 (i := 105) (by decide +kernel) (by decide +kernel)
set_option maxRecDepth 20000 in
theorem il_X5 : ∀ w ∈ u_ws RX5 TX5 4, w ∈ AW := by
  intro w hw
  obtain ⟨k, hk, rfl⟩ := List.mem_map.mp hw
  have hk := List.mem_range.mp hk
  match k, hk with
  | 0, _ => exact il_X5_0
  | 1, _ => exact il_X5_1
  | 2, _ => exact il_X5_2
  | 3, _ => exact il_X5_3
  | k + 4, h => exact absurd h (by omega)
set_option maxRecDepth 20000 in
theorem il_X6_0 : u_lay RX6 TX6 0 ∈ AW := aw_t1 (i := 226) (by decide +kernel) (by decide +kernel)
set_option maxRecDepth 20000 in
theorem il_X6_1 : u_lay RX6 TX6 1 ∈ AW := aw_t1 (i := 228) (by decide +kernel) (by decide +kernel)
set_option maxRecDepth 20000 in
theorem il_X6_2 : u_lay RX6 TX6 2 ∈ AW := aw_t1 (i := 230) (by decide +kernel) (by decide +kernel)
set_option maxRecDepth 20000 in
theorem il_X6_3 : u_lay RX6 TX6 3 ∈ AW := aw_t1 (i := 232) (by decide +kernel) (by decide +kernel)
set_option maxRecDepth 20000 in
theorem il_X6_4 : u_lay RX6 TX6 4 ∈ AW := aw_t1 (i := 234) (by decide +kernel) (by decide +kernel)
set_option maxRecDepth 20000 in
theorem il_X6_5 : u_lay RX6 TX6 5 ∈ AW := aw_t1 (i := 236) (by decide +kernel) (by decide +kernel)
set_option maxRecDepth 20000 in
theorem il_X6_6 : u_lay RX6 TX6 6 ∈ AW := aw_t1 (i := 238) (by decide +kernel) (by decide +kernel)
set_option maxRecDepth 20000 in
theorem il_X6_7 : u_lay RX6 TX6 7 ∈ AW := aw_t2 (i := 0) (by decide +kernel) (by decide +kernel)
set_option maxRecDepth 20000 in
theorem il_X6 : ∀ w ∈ u_ws RX6 TX6 8, w ∈ AW := by
  intro w hw
  obtain ⟨k, hk, rfl⟩ := List.mem_map.mp hw
  have hk := List.mem_range.mp hk
  match k, hk with
  | 0, _ => exact il_X6_0
  | 1, _ => exact il_X6_1
  | 2, _ => exact il_X6_2
  | 3, _ => exact il_X6_3
  | 4, _ => exact il_X6_4
  | 5, _ => exact il_X6_5
  | 6, _ => exact il_X6_6
  | 7, _ => exact il_X6_7
  | k + 8, h => exact absurd h (by omega)
set_option maxRecDepth 20000 in
theorem il_X7_0 : u_lay RX7 TX7 0 ∈ AW := aw_t3 (i := 154) (by decide +kernel) (by decide +kernel)
set_option maxRecDepth 20000 in
theorem il_X7_1 : u_lay RX7 TX7 1 ∈ AW := aw_t3 (i := 156) (by decide +kernel) (by decide +kernel)
set_option maxRecDepth 20000 in
theorem il_X7_2 : u_lay RX7 TX7 2 ∈ AW := aw_t3 (i := 158) (by decide +kernel) (by decide +kernel)
set_option maxRecDepth 20000 in
theorem il_X7_3 : u_lay RX7 TX7 3 ∈ AW := aw_t3 (i := 160) (by decide +kernel) (by decide +kernel)
set_option maxRecDepth 20000 in
theorem il_X7_4 : u_lay RX7 TX7 4 ∈ AW := aw_t3 (i := 162) (by decide +kernel) (by decide +kernel)
set_option maxRecDepth 20000 in
theorem il_X7_5 : u_lay RX7 TX7 5 ∈ AW := aw_t3 (i := 164) (by decide +kernel) (by decide +kernel)
set_option maxRecDepth 20000 in
theorem il_X7_6 : u_lay RX7 TX7 6 ∈ AW := aw_t3 (i := 166) (by decide +kernel) (by decide +kernel)
set_option maxRecDepth 20000 in
theorem il_X7_7 : u_lay RX7 TX7 7 ∈ AW := aw_t3 (i := 168) (by decide +kernel) (by decide +kernel)
set_option maxRecDepth 20000 in
theorem il_X7_8 : u_lay RX7 TX7 8 ∈ AW := aw_t3 (i := 170) (by decide +kernel) (by decide +kernel)
set_option maxRecDepth 20000 in
theorem il_X7_9 : u_lay RX7 TX7 9 ∈ AW := aw_t3 (i := 172) (by decide +kernel) (by decide +kernel)
set_option maxRecDepth 20000 in
theorem il_X7_10 : u_lay RX7 TX7 10 ∈ AW := aw_t3 (i := 174) (by decide +kernel) (by decide +kernel)
set_option maxRecDepth 20000 in
theorem il_X7_11 : u_lay RX7 TX7 11 ∈ AW := aw_t3 (i := 176) (by decide +kernel) (by decide +kernel)
set_option maxRecDepth 20000 in
theorem il_X7_12 : u_lay RX7 TX7 12 ∈ AW := aw_t3 (i := 178) (by decide +kernel) (by decide +kernel)
set_option maxRecDepth 20000 in
theorem il_X7_13 : u_lay RX7 TX7 13 ∈ AW := aw_t3 (i := 180) (by decide +kernel) (by decide +kernel)
set_option maxRecDepth 20000 in
theorem il_X7_14 : u_lay RX7 TX7 14 ∈ AW := aw_t3 (i := 182) (by decide +kernel) (by decide +kernel)
set_option maxRecDepth 20000 in
theorem il_X7_15 : u_lay RX7 TX7 15 ∈ AW := aw_t3 (i := 184) (by decide +kernel) (by decide +kernel)
set_option maxRecDepth 20000 in
theorem il_X7_16 : u_lay RX7 TX7 16 ∈ AW := aw_t3 (i := 186) (by decide +kernel) (by decide +kernel)
set_option maxRecDepth 20000 in
theorem il_X7_17 : u_lay RX7 TX7 17 ∈ AW := aw_t3 (i := 188) (by decide +kernel) (by decide +kernel)
set_option maxRecDepth 20000 in
theorem il_X7_18 : u_lay RX7 TX7 18 ∈ AW := aw_t3 (i := 190) (by decide +kernel) (by decide +kernel)
set_option maxRecDepth 20000 in
theorem il_X7_19 : u_lay RX7 TX7 19 ∈ AW := aw_t3 (i := 192) (by decide +kernel) (by decide +kernel)
set_option maxRecDepth 20000 in
theorem il_X7_20 : u_lay RX7 TX7 20 ∈ AW := aw_t3 (i := 194) (by decide +kernel) (by decide +kernel)
set_option maxRecDepth 20000 in
theorem il_X7_21 : u_lay RX7 TX7 21 ∈ AW := aw_t3 (i := 196) (by decide +kernel) (by decide +kernel)
set_option maxRecDepth 20000 in
theorem il_X7_22 : u_lay RX7 TX7 22 ∈ AW := aw_t3 (i := 198) (by decide +kernel) (by decide +kernel)
set_option maxRecDepth 20000 in
theorem il_X7_23 : u_lay RX7 TX7 23 ∈ AW := aw_t3 (i := 200) (by decide +kernel) (by decide +kernel)
set_option maxRecDepth 20000 in
theorem il_X7_24 : u_lay RX7 TX7 24 ∈ AW := aw_t3 (i := 202) (by decide +kernel) (by decide +kernel)
set_option maxRecDepth 20000 in
theorem il_X7_25 : u_lay RX7 TX7 25 ∈ AW := aw_t3 (i := 204) (by decide +kernel) (by decide +kernel)
set_option maxRecDepth 20000 in
theorem il_X7_26 : u_lay RX7 TX7 26 ∈ AW := aw_t3 (i := 206) (by decide +kernel) (by decide +kernel)
set_option maxRecDepth 20000 in
theorem il_X7_27 : u_lay RX7 TX7 27 ∈ AW := aw_t3 (i := 208) (by decide +kernel) (by decide +kernel)
set_option maxRecDepth 20000 in
theorem il_X7_28 : u_lay RX7 TX7 28 ∈ AW := aw_t3 (i := 210) (by decide +kernel) (by decide +kernel)
set_option maxRecDepth 20000 in
theorem il_X7_29 : u_lay RX7 TX7 29 ∈ AW := aw_t3 (i := 212) (by decide +kernel) (by decide +kernel)
set_option maxRecDepth 20000 in
theorem il_X7_30 : u_lay RX7 TX7 30 ∈ AW := aw_t3 (i := 214) (by decide +kernel) (by decide +kernel)
set_option maxRecDepth 20000 in
theorem il_X7_31 : u_lay RX7 TX7 31 ∈ AW := aw_t3 (i := 216) (by decide +kernel) (by decide +kernel)
set_option maxRecDepth 20000 in
theorem il_X7_32 : u_lay RX7 TX7 32 ∈ AW := aw_t3 (i := 218) (by decide +kernel) (by decide +kernel)
set_option maxRecDepth 20000 in
theorem il_X7 : ∀ w ∈ u_ws RX7 TX7 33, w ∈ AW := by
  intro w hw
  obtain ⟨k, hk, rfl⟩ := List.mem_map.mp hw
  have hk := List.mem_range.mp hk
  match k, hk with
  | 0, _ => exact il_X7_0
  | 1, _ => exact il_X7_1
  | 2, _ => exact il_X7_2
  | 3, _ => exact il_X7_3
  | 4, _ => exact il_X7_4
  | 5, _ => exact il_X7_5
  | 6, _ => exact il_X7_6
  | 7, _ => exact il_X7_7
  | 8, _ => exact il_X7_8
  | 9, _ => exact il_X7_9
  | 10, _ => exact il_X7_10
  | 11, _ => exact il_X7_11
  | 12, _ => exact il_X7_12
  | 13, _ => exact il_X7_13
  | 14, _ => exact il_X7_14
  | 15, _ => exact il_X7_15
  | 16, _ => exact il_X7_16
  | 17, _ => exact il_X7_17
  | 18, _ => exact il_X7_18
  | 19, _ => exact il_X7_19
  | 20, _ => exact il_X7_20
  | 21, _ => exact il_X7_21
  | 22, _ => exact il_X7_22
  | 23, _ => exact il_X7_23
  | 24, _ => exact il_X7_24
  | 25, _ => exact il_X7_25
  | 26, _ => exact il_X7_26
  | 27, _ => exact il_X7_27
  | 28, _ => exact il_X7_28
  | 29, _ => exact il_X7_29
  | 30, _ => exact il_X7_30
  | 31, _ => exact il_X7_31
  | 32, _ => exact il_X7_32
  | k + 33, h => exact absurd h (by omega)
set_option maxRecDepth 20000 in
theorem f_X0_9 : GF RX0 9 0 0 false false := ⟨RX0, TX0, 14, tyX0, rfl, by decide, aw_34, il_X0, tyX0_ok, nmX0, by decide +kernel, rfl, rfl, fun _ => rfl, fun h => by cases h⟩
set_option maxRecDepth 20000 in
theorem f_X0_15 : GF RX0 15 0 1 false false := ⟨RX0, TX0, 14, tyX0, rfl, by decide, aw_35, il_X0, tyX0_ok, nmX0, by decide +kernel, rfl, rfl, fun _ => rfl, fun h => by cases h⟩
set_option maxRecDepth 20000 in
theorem f_X0_18 : GF RX0 18 0 2 false false := ⟨RX0, TX0, 14, tyX0, rfl, by decide, aw_36, il_X0, tyX0_ok, nmX0, by decide +kernel, rfl, rfl, fun _ => rfl, fun h => by cases h⟩
set_option maxRecDepth 20000 in
theorem f_X0_21 : GF RX0 21 0 3 true true := ⟨RX0, TX0, 14, tyX0, rfl, by decide, aw_37, il_X0, tyX0_ok, nmX0, by decide +kernel, rfl, rfl, fun h => (by cases h), fun _ a => ⟨rfl, rfl⟩⟩
set_option maxRecDepth 20000 in
theorem f_X0_25 : GF RX0 25 0 4 true true := ⟨RX0, TX0, 14, tyX0, rfl, by decide, aw_38, il_X0, tyX0_ok, nmX0, by decide +kernel, rfl, rfl, fun h => (by cases h), fun _ a => ⟨rfl, rfl⟩⟩
set_option maxRecDepth 20000 in
theorem f_X0_28 : GF RX0 28 0 5 true true := ⟨RX0, TX0, 14, tyX0, rfl, by decide, aw_39, il_X0, tyX0_ok, nmX0, by decide +kernel, rfl, rfl, fun h => (by cases h), fun _ a => ⟨rfl, rfl⟩⟩
set_option maxRecDepth 20000 in
theorem f_X0_31 : GF RX0 31 0 6 true true := ⟨RX0, TX0, 14, tyX0, rfl, by decide, aw_40, il_X0, tyX0_ok, nmX0, by decide +kernel, rfl, rfl, fun h => (by cases h), fun _ a => ⟨rfl, rfl⟩⟩
set_option maxRecDepth 20000 in
theorem f_X0_34 : GF RX0 34 0 7 true true := ⟨RX0, TX0, 14, tyX0, rfl, by decide, aw_41, il_X0, tyX0_ok, nmX0, by decide +kernel, rfl, rfl, fun h => (by cases h), fun _ a => ⟨rfl, rfl⟩⟩
set_option maxRecDepth 20000 in
theorem f_X0_37 : GF RX0 37 0 8 true true := ⟨RX0, TX0, 14, tyX0, rfl, by decide, aw_42, il_X0, tyX0_ok, nmX0, by decide +kernel, rfl, rfl, fun h => (by cases h), fun _ a => ⟨rfl, rfl⟩⟩
set_option maxRecDepth 20000 in
theorem f_X0_40 : GF RX0 40 0 9 true true := ⟨RX0, TX0, 14, tyX0, rfl, by decide, aw_43, il_X0, tyX0_ok, nmX0, by decide +kernel, rfl, rfl, fun h => (by cases h), fun _ a => ⟨rfl, rfl⟩⟩
set_option maxRecDepth 20000 in
theorem f_X0_46 : GF RX0 46 0 10 true true := ⟨RX0, TX0, 14, tyX0, rfl, by decide, aw_44, il_X0, tyX0_ok, nmX0, by decide +kernel, rfl, rfl, fun h => (by cases h), fun _ a => ⟨rfl, rfl⟩⟩
set_option maxRecDepth 20000 in
theorem f_X0_50 : GF RX0 50 0 11 true true := ⟨RX0, TX0, 14, tyX0, rfl, by decide, aw_45, il_X0, tyX0_ok, nmX0, by decide +kernel, rfl, rfl, fun h => (by cases h), fun _ a => ⟨rfl, rfl⟩⟩
set_option maxRecDepth 20000 in
theorem f_X0_55 : GF RX0 55 0 12 true true := ⟨RX0, TX0, 14, tyX0, rfl, by decide, aw_46, il_X0, tyX0_ok, nmX0, by decide +kernel, rfl, rfl, fun h => (by cases h), fun _ a => ⟨rfl, rfl⟩⟩
set_option maxRecDepth 20000 in
theorem f_X0_58 : GF RX0 58 0 13 true true := ⟨RX0, TX0, 14, tyX0, rfl, by decide, aw_47, il_X0, tyX0_ok, nmX0, by decide +kernel, rfl, rfl, fun h => (by cases h), fun _ a => ⟨rfl, rfl⟩⟩
set_option maxRecDepth 20000 in
theorem f_X0_61 : GF RX0 61 3 3 false false := ⟨RX3, TX3, 4, tyX3, rfl, by decide, aw_48, il_X3, tyX3_ok, nmX3, by decide +kernel, rfl, rfl, fun _ => rfl, fun h => by cases h⟩
set_option maxRecDepth 20000 in
theorem f_X0_99 : GF RX0 99 3 0 true true := ⟨RX3, TX3, 4, tyX3, rfl, by decide, aw_49, il_X3, tyX3_ok, nmX3, by decide +kernel, rfl, rfl, fun h => (by cases h), fun _ a => ⟨rfl, rfl⟩⟩
set_option maxRecDepth 20000 in
theorem f_X0_102 : GF RX0 102 3 1 true true := ⟨RX3, TX3, 4, tyX3, rfl, by decide, aw_50, il_X3, tyX3_ok, nmX3, by decide +kernel, rfl, rfl, fun h => (by cases h), fun _ a => ⟨rfl, rfl⟩⟩
set_option maxRecDepth 20000 in
theorem f_X0_105 : GF RX0 105 3 2 true true := ⟨RX3, TX3, 4, tyX3, rfl, by decide, aw_51, il_X3, tyX3_ok, nmX3, by decide +kernel, rfl, rfl, fun h => (by cases h), fun _ a => ⟨rfl, rfl⟩⟩
set_option maxRecDepth 20000 in
theorem f_X1_9 : GF RX1 9 1 0 true true := ⟨RX1, TX1, 3, tyX1, rfl, by decide, aw_52, il_X1, tyX1_ok, nmX1, by decide +kernel, rfl, rfl, fun h => (by cases h), fun _ a => ⟨rfl, rfl⟩⟩
set_option maxRecDepth 20000 in
theorem f_X1_15 : GF RX1 15 1 1 false false := ⟨RX1, TX1, 3, tyX1, rfl, by decide, aw_53, il_X1, tyX1_ok, nmX1, by decide +kernel, rfl, rfl, fun _ => rfl, fun h => by cases h⟩
set_option maxRecDepth 20000 in
theorem f_X1_19 : GF RX1 19 1 2 false false := ⟨RX1, TX1, 3, tyX1, rfl, by decide, aw_54, il_X1, tyX1_ok, nmX1, by decide +kernel, rfl, rfl, fun _ => rfl, fun h => by cases h⟩
set_option maxRecDepth 20000 in
theorem f_X2_9 : GF RX2 9 2 0 true true := ⟨RX2, TX2, 6, tyX2, rfl, by decide, aw_55, il_X2, tyX2_ok, nmX2, by decide +kernel, rfl, rfl, fun h => (by cases h), fun _ a => ⟨rfl, rfl⟩⟩
set_option maxRecDepth 20000 in
theorem f_X2_15 : GF RX2 15 2 1 false false := ⟨RX2, TX2, 6, tyX2, rfl, by decide, aw_56, il_X2, tyX2_ok, nmX2, by decide +kernel, rfl, rfl, fun _ => rfl, fun h => by cases h⟩
set_option maxRecDepth 20000 in
theorem f_X2_21 : GF RX2 21 2 2 true true := ⟨RX2, TX2, 6, tyX2, rfl, by decide, aw_57, il_X2, tyX2_ok, nmX2, by decide +kernel, rfl, rfl, fun h => (by cases h), fun _ a => ⟨rfl, rfl⟩⟩
set_option maxRecDepth 20000 in
theorem f_X2_24 : GF RX2 24 2 3 true true := ⟨RX2, TX2, 6, tyX2, rfl, by decide, aw_58, il_X2, tyX2_ok, nmX2, by decide +kernel, rfl, rfl, fun h => (by cases h), fun _ a => ⟨rfl, rfl⟩⟩
set_option maxRecDepth 20000 in
theorem f_X2_27 : GF RX2 27 2 4 false false := ⟨RX2, TX2, 6, tyX2, rfl, by decide, aw_59, il_X2, tyX2_ok, nmX2, by decide +kernel, rfl, rfl, fun _ => rfl, fun h => by cases h⟩
set_option maxRecDepth 20000 in
theorem f_X2_30 : GF RX2 30 2 5 false false := ⟨RX2, TX2, 6, tyX2, rfl, by decide, aw_60, il_X2, tyX2_ok, nmX2, by decide +kernel, rfl, rfl, fun _ => rfl, fun h => by cases h⟩
set_option maxRecDepth 20000 in
theorem f_X2_33 : GF RX2 33 0 1 false false := ⟨RX0, TX0, 14, tyX0, rfl, by decide, aw_61, il_X0, tyX0_ok, nmX0, by decide +kernel, rfl, rfl, fun _ => rfl, fun h => by cases h⟩
set_option maxRecDepth 20000 in
theorem f_X2_36 : GF RX2 36 0 0 false false := ⟨RX0, TX0, 14, tyX0, rfl, by decide, aw_62, il_X0, tyX0_ok, nmX0, by decide +kernel, rfl, rfl, fun _ => rfl, fun h => by cases h⟩
set_option maxRecDepth 20000 in
theorem f_X3_9 : GF RX3 9 3 0 true true := ⟨RX3, TX3, 4, tyX3, rfl, by decide, aw_63, il_X3, tyX3_ok, nmX3, by decide +kernel, rfl, rfl, fun h => (by cases h), fun _ a => ⟨rfl, rfl⟩⟩
set_option maxRecDepth 20000 in
theorem f_X3_15 : GF RX3 15 3 1 true true := ⟨RX3, TX3, 4, tyX3, rfl, by decide, aw_64, il_X3, tyX3_ok, nmX3, by decide +kernel, rfl, rfl, fun h => (by cases h), fun _ a => ⟨rfl, rfl⟩⟩
set_option maxRecDepth 20000 in
theorem f_X3_18 : GF RX3 18 3 2 true true := ⟨RX3, TX3, 4, tyX3, rfl, by decide, aw_65, il_X3, tyX3_ok, nmX3, by decide +kernel, rfl, rfl, fun h => (by cases h), fun _ a => ⟨rfl, rfl⟩⟩
set_option maxRecDepth 20000 in
theorem f_X3_21 : GF RX3 21 3 3 false false := ⟨RX3, TX3, 4, tyX3, rfl, by decide, aw_66, il_X3, tyX3_ok, nmX3, by decide +kernel, rfl, rfl, fun _ => rfl, fun h => by cases h⟩
set_option maxRecDepth 20000 in
theorem f_X4_9 : GF RX4 9 4 0 true true := ⟨RX4, TX4, 8, tyX4, rfl, by decide, aw_67, il_X4, tyX4_ok, nmX4, by decide +kernel, rfl, rfl, fun h => (by cases h), fun _ a => ⟨rfl, rfl⟩⟩
set_option maxRecDepth 20000 in
theorem f_X4_15 : GF RX4 15 4 1 false false := ⟨RX4, TX4, 8, tyX4, rfl, by decide, aw_68, il_X4, tyX4_ok, nmX4, by decide +kernel, rfl, rfl, fun _ => rfl, fun h => by cases h⟩
set_option maxRecDepth 20000 in
theorem f_X4_21 : GF RX4 21 4 2 true true := ⟨RX4, TX4, 8, tyX4, rfl, by decide, aw_69, il_X4, tyX4_ok, nmX4, by decide +kernel, rfl, rfl, fun h => (by cases h), fun _ a => ⟨rfl, rfl⟩⟩
set_option maxRecDepth 20000 in
theorem f_X4_24 : GF RX4 24 4 3 true true := ⟨RX4, TX4, 8, tyX4, rfl, by decide, aw_70, il_X4, tyX4_ok, nmX4, by decide +kernel, rfl, rfl, fun h => (by cases h), fun _ a => ⟨rfl, rfl⟩⟩
set_option maxRecDepth 20000 in
theorem f_X4_27 : GF RX4 27 4 4 true true := ⟨RX4, TX4, 8, tyX4, rfl, by decide, aw_71, il_X4, tyX4_ok, nmX4, by decide +kernel, rfl, rfl, fun h => (by cases h), fun _ a => ⟨rfl, rfl⟩⟩
set_option maxRecDepth 20000 in
theorem f_X4_30 : GF RX4 30 4 5 true true := ⟨RX4, TX4, 8, tyX4, rfl, by decide, aw_72, il_X4, tyX4_ok, nmX4, by decide +kernel, rfl, rfl, fun h => (by cases h), fun _ a => ⟨rfl, rfl⟩⟩
set_option maxRecDepth 20000 in
theorem f_X4_33 : GF RX4 33 4 6 false false := ⟨RX4, TX4, 8, tyX4, rfl, by decide, aw_73, il_X4, tyX4_ok, nmX4, by decide +kernel, rfl, rfl, fun _ => rfl, fun h => by cases h⟩
set_option maxRecDepth 20000 in
theorem f_X4_36 : GF RX4 36 4 7 false false := ⟨RX4, TX4, 8, tyX4, rfl, by decide, aw_74, il_X4, tyX4_ok, nmX4, by decide +kernel, rfl, rfl, fun _ => rfl, fun h => by cases h⟩
set_option maxRecDepth 20000 in
theorem f_X4_39 : GF RX4 39 0 1 false false := ⟨RX0, TX0, 14, tyX0, rfl, by decide, aw_75, il_X0, tyX0_ok, nmX0, by decide +kernel, rfl, rfl, fun _ => rfl, fun h => by cases h⟩
set_option maxRecDepth 20000 in
theorem f_X5_9 : GF RX5 9 5 0 true false := ⟨RX5, TX5, 4, tyX5, rfl, by decide, aw_76, il_X5, tyX5_ok, nmX5, by decide +kernel, rfl, rfl, fun h => (by cases h), fun _ a => ⟨rfl, rfl⟩⟩
set_option maxRecDepth 20000 in
theorem f_X5_15 : GF RX5 15 5 1 true false := ⟨RX5, TX5, 4, tyX5, rfl, by decide, aw_77, il_X5, tyX5_ok, nmX5, by decide +kernel, rfl, rfl, fun h => (by cases h), fun _ a => ⟨rfl, rfl⟩⟩
set_option maxRecDepth 20000 in
theorem f_X5_18 : GF RX5 18 5 2 false false := ⟨RX5, TX5, 4, tyX5, rfl, by decide, aw_78, il_X5, tyX5_ok, nmX5, by decide +kernel, rfl, rfl, fun _ => rfl, fun h => by cases h⟩
set_option maxRecDepth 20000 in
theorem f_X5_22 : GF RX5 22 5 3 false false := ⟨RX5, TX5, 4, tyX5, rfl, by decide, aw_79, il_X5, tyX5_ok, nmX5, by decide +kernel, rfl, rfl, fun _ => rfl, fun h => by cases h⟩
set_option maxRecDepth 20000 in
theorem f_X5_31 : GF RX5 31 0 2 false false := ⟨RX0, TX0, 14, tyX0, rfl, by decide, aw_80, il_X0, tyX0_ok, nmX0, by decide +kernel, rfl, rfl, fun _ => rfl, fun h => by cases h⟩
set_option maxRecDepth 20000 in
theorem f_X5_40 : GF RX5 40 0 8 true true := ⟨RX0, TX0, 14, tyX0, rfl, by decide, aw_81, il_X0, tyX0_ok, nmX0, by decide +kernel, rfl, rfl, fun h => (by cases h), fun _ a => ⟨rfl, rfl⟩⟩
set_option maxRecDepth 20000 in
theorem f_X5_54 : GF RX5 54 0 3 true true := ⟨RX0, TX0, 14, tyX0, rfl, by decide, aw_82, il_X0, tyX0_ok, nmX0, by decide +kernel, rfl, rfl, fun h => (by cases h), fun _ a => ⟨rfl, rfl⟩⟩
set_option maxRecDepth 20000 in
theorem f_X5_57 : GF RX5 57 0 9 true true := ⟨RX0, TX0, 14, tyX0, rfl, by decide, aw_83, il_X0, tyX0_ok, nmX0, by decide +kernel, rfl, rfl, fun h => (by cases h), fun _ a => ⟨rfl, rfl⟩⟩
set_option maxRecDepth 20000 in
theorem f_X6_13 : GF RX6 13 6 0 true true := ⟨RX6, TX6, 8, tyX6, rfl, by decide, aw_84, il_X6, tyX6_ok, nmX6, by decide +kernel, rfl, rfl, fun h => (by cases h), fun _ a => ⟨rfl, rfl⟩⟩
set_option maxRecDepth 20000 in
theorem f_X6_20 : GF RX6 20 6 1 true true := ⟨RX6, TX6, 8, tyX6, rfl, by decide, aw_85, il_X6, tyX6_ok, nmX6, by decide +kernel, rfl, rfl, fun h => (by cases h), fun _ a => ⟨rfl, rfl⟩⟩
set_option maxRecDepth 20000 in
theorem f_X6_27 : GF RX6 27 6 2 true true := ⟨RX6, TX6, 8, tyX6, rfl, by decide, aw_86, il_X6, tyX6_ok, nmX6, by decide +kernel, rfl, rfl, fun h => (by cases h), fun _ a => ⟨rfl, rfl⟩⟩
set_option maxRecDepth 20000 in
theorem f_X6_34 : GF RX6 34 6 3 true true := ⟨RX6, TX6, 8, tyX6, rfl, by decide, aw_87, il_X6, tyX6_ok, nmX6, by decide +kernel, rfl, rfl, fun h => (by cases h), fun _ a => ⟨rfl, rfl⟩⟩
set_option maxRecDepth 20000 in
theorem f_X6_41 : GF RX6 41 6 4 true false := ⟨RX6, TX6, 8, tyX6, rfl, by decide, aw_88, il_X6, tyX6_ok, nmX6, by decide +kernel, rfl, rfl, fun h => (by cases h), fun _ a => ⟨rfl, rfl⟩⟩
set_option maxRecDepth 20000 in
theorem f_X6_45 : GF RX6 45 6 5 true false := ⟨RX6, TX6, 8, tyX6, rfl, by decide, aw_89, il_X6, tyX6_ok, nmX6, by decide +kernel, rfl, rfl, fun h => (by cases h), fun _ a => ⟨rfl, rfl⟩⟩
set_option maxRecDepth 20000 in
theorem f_X6_48 : GF RX6 48 6 6 false false := ⟨RX6, TX6, 8, tyX6, rfl, by decide, aw_90, il_X6, tyX6_ok, nmX6, by decide +kernel, rfl, rfl, fun _ => rfl, fun h => by cases h⟩
set_option maxRecDepth 20000 in
theorem f_X6_52 : GF RX6 52 6 7 false false := ⟨RX6, TX6, 8, tyX6, rfl, by decide, aw_91, il_X6, tyX6_ok, nmX6, by decide +kernel, rfl, rfl, fun _ => rfl, fun h => by cases h⟩
set_option maxRecDepth 20000 in
theorem f_X6_74 : GF RX6 74 1 0 true true := ⟨RX1, TX1, 3, tyX1, rfl, by decide, aw_92, il_X1, tyX1_ok, nmX1, by decide +kernel, rfl, rfl, fun h => (by cases h), fun _ a => ⟨rfl, rfl⟩⟩
set_option maxRecDepth 20000 in
theorem f_X6_82 : GF RX6 82 0 2 false false := ⟨RX0, TX0, 14, tyX0, rfl, by decide, aw_93, il_X0, tyX0_ok, nmX0, by decide +kernel, rfl, rfl, fun _ => rfl, fun h => by cases h⟩
set_option maxRecDepth 20000 in
theorem f_X6_88 : GF RX6 88 0 3 true true := ⟨RX0, TX0, 14, tyX0, rfl, by decide, aw_94, il_X0, tyX0_ok, nmX0, by decide +kernel, rfl, rfl, fun h => (by cases h), fun _ a => ⟨rfl, rfl⟩⟩
set_option maxRecDepth 20000 in
theorem f_X6_91 : GF RX6 91 0 4 true true := ⟨RX0, TX0, 14, tyX0, rfl, by decide, aw_95, il_X0, tyX0_ok, nmX0, by decide +kernel, rfl, rfl, fun h => (by cases h), fun _ a => ⟨rfl, rfl⟩⟩
set_option maxRecDepth 20000 in
theorem f_X6_94 : GF RX6 94 0 5 true true := ⟨RX0, TX0, 14, tyX0, rfl, by decide, aw_96, il_X0, tyX0_ok, nmX0, by decide +kernel, rfl, rfl, fun h => (by cases h), fun _ a => ⟨rfl, rfl⟩⟩
set_option maxRecDepth 20000 in
theorem f_X6_97 : GF RX6 97 0 6 true true := ⟨RX0, TX0, 14, tyX0, rfl, by decide, aw_97, il_X0, tyX0_ok, nmX0, by decide +kernel, rfl, rfl, fun h => (by cases h), fun _ a => ⟨rfl, rfl⟩⟩
set_option maxRecDepth 20000 in
theorem f_X6_103 : GF RX6 103 0 7 true true := ⟨RX0, TX0, 14, tyX0, rfl, by decide, aw_98, il_X0, tyX0_ok, nmX0, by decide +kernel, rfl, rfl, fun h => (by cases h), fun _ a => ⟨rfl, rfl⟩⟩
set_option maxRecDepth 20000 in
theorem f_X6_106 : GF RX6 106 0 8 true true := ⟨RX0, TX0, 14, tyX0, rfl, by decide, aw_99, il_X0, tyX0_ok, nmX0, by decide +kernel, rfl, rfl, fun h => (by cases h), fun _ a => ⟨rfl, rfl⟩⟩
set_option maxRecDepth 20000 in
theorem f_X6_109 : GF RX6 109 0 9 true true := ⟨RX0, TX0, 14, tyX0, rfl, by decide, aw_100, il_X0, tyX0_ok, nmX0, by decide +kernel, rfl, rfl, fun h => (by cases h), fun _ a => ⟨rfl, rfl⟩⟩
set_option maxRecDepth 20000 in
theorem f_X6_112 : GF RX6 112 0 0 false false := ⟨RX0, TX0, 14, tyX0, rfl, by decide, aw_101, il_X0, tyX0_ok, nmX0, by decide +kernel, rfl, rfl, fun _ => rfl, fun h => by cases h⟩
set_option maxRecDepth 20000 in
theorem f_X6_118 : GF RX6 118 0 10 true true := ⟨RX0, TX0, 14, tyX0, rfl, by decide, aw_102, il_X0, tyX0_ok, nmX0, by decide +kernel, rfl, rfl, fun h => (by cases h), fun _ a => ⟨rfl, rfl⟩⟩
set_option maxRecDepth 20000 in
theorem f_X6_168 : GF RX6 168 4 1 false false := ⟨RX4, TX4, 8, tyX4, rfl, by decide, aw_103, il_X4, tyX4_ok, nmX4, by decide +kernel, rfl, rfl, fun _ => rfl, fun h => by cases h⟩
set_option maxRecDepth 20000 in
theorem f_X6_171 : GF RX6 171 4 0 true true := ⟨RX4, TX4, 8, tyX4, rfl, by decide, aw_104, il_X4, tyX4_ok, nmX4, by decide +kernel, rfl, rfl, fun h => (by cases h), fun _ a => ⟨rfl, rfl⟩⟩
set_option maxRecDepth 20000 in
theorem f_X6_177 : GF RX6 177 2 1 false false := ⟨RX2, TX2, 6, tyX2, rfl, by decide, aw_105, il_X2, tyX2_ok, nmX2, by decide +kernel, rfl, rfl, fun _ => rfl, fun h => by cases h⟩
set_option maxRecDepth 20000 in
theorem f_X6_180 : GF RX6 180 2 0 true true := ⟨RX2, TX2, 6, tyX2, rfl, by decide, aw_106, il_X2, tyX2_ok, nmX2, by decide +kernel, rfl, rfl, fun h => (by cases h), fun _ a => ⟨rfl, rfl⟩⟩
set_option maxRecDepth 20000 in
theorem f_X6_181 : GF RX6 181 0 1 false false := ⟨RX0, TX0, 14, tyX0, rfl, by decide, aw_107, il_X0, tyX0_ok, nmX0, by decide +kernel, rfl, rfl, fun _ => rfl, fun h => by cases h⟩
set_option maxRecDepth 20000 in
theorem f_X6_187 : GF RX6 187 0 11 true true := ⟨RX0, TX0, 14, tyX0, rfl, by decide, aw_108, il_X0, tyX0_ok, nmX0, by decide +kernel, rfl, rfl, fun h => (by cases h), fun _ a => ⟨rfl, rfl⟩⟩
set_option maxRecDepth 20000 in
theorem f_X6_201 : GF RX6 201 5 2 false false := ⟨RX5, TX5, 4, tyX5, rfl, by decide, aw_109, il_X5, tyX5_ok, nmX5, by decide +kernel, rfl, rfl, fun _ => rfl, fun h => by cases h⟩
set_option maxRecDepth 20000 in
theorem f_X6_204 : GF RX6 204 5 3 false false := ⟨RX5, TX5, 4, tyX5, rfl, by decide, aw_110, il_X5, tyX5_ok, nmX5, by decide +kernel, rfl, rfl, fun _ => rfl, fun h => by cases h⟩
set_option maxRecDepth 20000 in
theorem f_X6_220 : GF RX6 220 1 1 false false := ⟨RX1, TX1, 3, tyX1, rfl, by decide, aw_111, il_X1, tyX1_ok, nmX1, by decide +kernel, rfl, rfl, fun _ => rfl, fun h => by cases h⟩
set_option maxRecDepth 20000 in
theorem f_X6_242 : GF RX6 242 3 3 false false := ⟨RX3, TX3, 4, tyX3, rfl, by decide, aw_112, il_X3, tyX3_ok, nmX3, by decide +kernel, rfl, rfl, fun _ => rfl, fun h => by cases h⟩
set_option maxRecDepth 20000 in
theorem f_X7_9 : GF RX7 9 7 2 true true := ⟨RX7, TX7, 33, tyX7, rfl, by decide, aw_113, il_X7, tyX7_ok, nmX7, by decide +kernel, rfl, rfl, fun h => (by cases h), fun _ a => ⟨rfl, rfl⟩⟩
set_option maxRecDepth 20000 in
theorem f_X7_13 : GF RX7 13 7 3 true true := ⟨RX7, TX7, 33, tyX7, rfl, by decide, aw_114, il_X7, tyX7_ok, nmX7, by decide +kernel, rfl, rfl, fun h => (by cases h), fun _ a => ⟨rfl, rfl⟩⟩
set_option maxRecDepth 20000 in
theorem f_X7_16 : GF RX7 16 7 4 true true := ⟨RX7, TX7, 33, tyX7, rfl, by decide, aw_115, il_X7, tyX7_ok, nmX7, by decide +kernel, rfl, rfl, fun h => (by cases h), fun _ a => ⟨rfl, rfl⟩⟩
set_option maxRecDepth 20000 in
theorem f_X7_19 : GF RX7 19 7 8 true true := ⟨RX7, TX7, 33, tyX7, rfl, by decide, aw_116, il_X7, tyX7_ok, nmX7, by decide +kernel, rfl, rfl, fun h => (by cases h), fun _ a => ⟨rfl, rfl⟩⟩
set_option maxRecDepth 20000 in
theorem f_X7_22 : GF RX7 22 7 9 true true := ⟨RX7, TX7, 33, tyX7, rfl, by decide, aw_117, il_X7, tyX7_ok, nmX7, by decide +kernel, rfl, rfl, fun h => (by cases h), fun _ a => ⟨rfl, rfl⟩⟩
set_option maxRecDepth 20000 in
theorem f_X7_25 : GF RX7 25 7 10 true true := ⟨RX7, TX7, 33, tyX7, rfl, by decide, aw_118, il_X7, tyX7_ok, nmX7, by decide +kernel, rfl, rfl, fun h => (by cases h), fun _ a => ⟨rfl, rfl⟩⟩
set_option maxRecDepth 20000 in
theorem f_X7_28 : GF RX7 28 7 11 true true := ⟨RX7, TX7, 33, tyX7, rfl, by decide, aw_119, il_X7, tyX7_ok, nmX7, by decide +kernel, rfl, rfl, fun h => (by cases h), fun _ a => ⟨rfl, rfl⟩⟩
set_option maxRecDepth 20000 in
theorem f_X7_31 : GF RX7 31 7 12 true true := ⟨RX7, TX7, 33, tyX7, rfl, by decide, aw_120, il_X7, tyX7_ok, nmX7, by decide +kernel, rfl, rfl, fun h => (by cases h), fun _ a => ⟨rfl, rfl⟩⟩
set_option maxRecDepth 20000 in
theorem f_X7_34 : GF RX7 34 7 13 true true := ⟨RX7, TX7, 33, tyX7, rfl, by decide, aw_121, il_X7, tyX7_ok, nmX7, by decide +kernel, rfl, rfl, fun h => (by cases h), fun _ a => ⟨rfl, rfl⟩⟩
set_option maxRecDepth 20000 in
theorem f_X7_37 : GF RX7 37 7 14 true true := ⟨RX7, TX7, 33, tyX7, rfl, by decide, aw_122, il_X7, tyX7_ok, nmX7, by decide +kernel, rfl, rfl, fun h => (by cases h), fun _ a => ⟨rfl, rfl⟩⟩
set_option maxRecDepth 20000 in
theorem f_X7_40 : GF RX7 40 7 16 true true := ⟨RX7, TX7, 33, tyX7, rfl, by decide, aw_123, il_X7, tyX7_ok, nmX7, by decide +kernel, rfl, rfl, fun h => (by cases h), fun _ a => ⟨rfl, rfl⟩⟩
set_option maxRecDepth 20000 in
theorem f_X7_43 : GF RX7 43 7 17 true true := ⟨RX7, TX7, 33, tyX7, rfl, by decide, aw_124, il_X7, tyX7_ok, nmX7, by decide +kernel, rfl, rfl, fun h => (by cases h), fun _ a => ⟨rfl, rfl⟩⟩
set_option maxRecDepth 20000 in
theorem f_X7_46 : GF RX7 46 7 18 true true := ⟨RX7, TX7, 33, tyX7, rfl, by decide, aw_125, il_X7, tyX7_ok, nmX7, by decide +kernel, rfl, rfl, fun h => (by cases h), fun _ a => ⟨rfl, rfl⟩⟩
set_option maxRecDepth 20000 in
theorem f_X7_49 : GF RX7 49 7 24 true true := ⟨RX7, TX7, 33, tyX7, rfl, by decide, aw_126, il_X7, tyX7_ok, nmX7, by decide +kernel, rfl, rfl, fun h => (by cases h), fun _ a => ⟨rfl, rfl⟩⟩
set_option maxRecDepth 20000 in
theorem f_X7_52 : GF RX7 52 7 25 true true := ⟨RX7, TX7, 33, tyX7, rfl, by decide, aw_127, il_X7, tyX7_ok, nmX7, by decide +kernel, rfl, rfl, fun h => (by cases h), fun _ a => ⟨rfl, rfl⟩⟩
set_option maxRecDepth 20000 in
theorem f_X7_55 : GF RX7 55 7 26 true true := ⟨RX7, TX7, 33, tyX7, rfl, by decide, aw_128, il_X7, tyX7_ok, nmX7, by decide +kernel, rfl, rfl, fun h => (by cases h), fun _ a => ⟨rfl, rfl⟩⟩
set_option maxRecDepth 20000 in
theorem f_X7_58 : GF RX7 58 7 27 true true := ⟨RX7, TX7, 33, tyX7, rfl, by decide, aw_129, il_X7, tyX7_ok, nmX7, by decide +kernel, rfl, rfl, fun h => (by cases h), fun _ a => ⟨rfl, rfl⟩⟩
set_option maxRecDepth 20000 in
theorem f_X7_61 : GF RX7 61 7 28 true true := ⟨RX7, TX7, 33, tyX7, rfl, by decide, aw_130, il_X7, tyX7_ok, nmX7, by decide +kernel, rfl, rfl, fun h => (by cases h), fun _ a => ⟨rfl, rfl⟩⟩
set_option maxRecDepth 20000 in
theorem f_X7_64 : GF RX7 64 7 30 true true := ⟨RX7, TX7, 33, tyX7, rfl, by decide, aw_131, il_X7, tyX7_ok, nmX7, by decide +kernel, rfl, rfl, fun h => (by cases h), fun _ a => ⟨rfl, rfl⟩⟩
set_option maxRecDepth 20000 in
theorem f_X7_67 : GF RX7 67 7 31 true true := ⟨RX7, TX7, 33, tyX7, rfl, by decide, aw_132, il_X7, tyX7_ok, nmX7, by decide +kernel, rfl, rfl, fun h => (by cases h), fun _ a => ⟨rfl, rfl⟩⟩
set_option maxRecDepth 20000 in
theorem f_X7_70 : GF RX7 70 7 32 true true := ⟨RX7, TX7, 33, tyX7, rfl, by decide, aw_133, il_X7, tyX7_ok, nmX7, by decide +kernel, rfl, rfl, fun h => (by cases h), fun _ a => ⟨rfl, rfl⟩⟩
set_option maxRecDepth 20000 in
theorem f_X7_73 : GF RX7 73 7 0 false false := ⟨RX7, TX7, 33, tyX7, rfl, by decide, aw_134, il_X7, tyX7_ok, nmX7, by decide +kernel, rfl, rfl, fun _ => rfl, fun h => by cases h⟩
set_option maxRecDepth 20000 in
theorem f_X7_83 : GF RX7 83 7 6 false false := ⟨RX7, TX7, 33, tyX7, rfl, by decide, aw_135, il_X7, tyX7_ok, nmX7, by decide +kernel, rfl, rfl, fun _ => rfl, fun h => by cases h⟩
set_option maxRecDepth 20000 in
theorem f_X7_86 : GF RX7 86 7 5 false false := ⟨RX7, TX7, 33, tyX7, rfl, by decide, aw_136, il_X7, tyX7_ok, nmX7, by decide +kernel, rfl, rfl, fun _ => rfl, fun h => by cases h⟩
set_option maxRecDepth 20000 in
theorem f_X7_89 : GF RX7 89 7 7 false false := ⟨RX7, TX7, 33, tyX7, rfl, by decide, aw_137, il_X7, tyX7_ok, nmX7, by decide +kernel, rfl, rfl, fun _ => rfl, fun h => by cases h⟩
set_option maxRecDepth 20000 in
theorem f_X7_92 : GF RX7 92 7 20 false false := ⟨RX7, TX7, 33, tyX7, rfl, by decide, aw_138, il_X7, tyX7_ok, nmX7, by decide +kernel, rfl, rfl, fun _ => rfl, fun h => by cases h⟩
set_option maxRecDepth 20000 in
theorem f_X7_116 : GF RX7 116 7 21 false false := ⟨RX7, TX7, 33, tyX7, rfl, by decide, aw_139, il_X7, tyX7_ok, nmX7, by decide +kernel, rfl, rfl, fun _ => rfl, fun h => by cases h⟩
set_option maxRecDepth 20000 in
theorem f_X7_119 : GF RX7 119 7 22 false false := ⟨RX7, TX7, 33, tyX7, rfl, by decide, aw_140, il_X7, tyX7_ok, nmX7, by decide +kernel, rfl, rfl, fun _ => rfl, fun h => by cases h⟩
set_option maxRecDepth 20000 in
theorem f_X7_122 : GF RX7 122 7 23 false false := ⟨RX7, TX7, 33, tyX7, rfl, by decide, aw_141, il_X7, tyX7_ok, nmX7, by decide +kernel, rfl, rfl, fun _ => rfl, fun h => by cases h⟩
set_option maxRecDepth 20000 in
theorem f_X7_125 : GF RX7 125 7 15 false false := ⟨RX7, TX7, 33, tyX7, rfl, by decide, aw_142, il_X7, tyX7_ok, nmX7, by decide +kernel, rfl, rfl, fun _ => rfl, fun h => by cases h⟩
set_option maxRecDepth 20000 in
theorem f_X7_128 : GF RX7 128 7 29 false false := ⟨RX7, TX7, 33, tyX7, rfl, by decide, aw_143, il_X7, tyX7_ok, nmX7, by decide +kernel, rfl, rfl, fun _ => rfl, fun h => by cases h⟩
set_option maxRecDepth 20000 in
theorem f_X7_161 : GF RX7 161 7 19 false false := ⟨RX7, TX7, 33, tyX7, rfl, by decide, aw_144, il_X7, tyX7_ok, nmX7, by decide +kernel, rfl, rfl, fun _ => rfl, fun h => by cases h⟩
set_option maxRecDepth 20000 in
theorem f_X7_220 : GF RX7 220 7 1 false false := ⟨RX7, TX7, 33, tyX7, rfl, by decide, aw_145, il_X7, tyX7_ok, nmX7, by decide +kernel, rfl, rfl, fun _ => rfl, fun h => by cases h⟩
set_option maxRecDepth 20000 in
theorem cf_X0_64 : CF RX0 64 yX0_goesOn cX0_goesOn 4 (some .boolean) 2 := ⟨aw_146, aw_147, aw_148, by decide +kernel⟩
set_option maxRecDepth 20000 in
theorem cf_X0_68 : CF RX0 68 yJ7_fill_53178 cJ7_fill_53178 4 none 2 := ⟨aw_149, aw_150, aw_151, by decide +kernel⟩
set_option maxRecDepth 20000 in
theorem cf_X0_74 : CF RX0 74 yX0_carry cX0_carry 3 none 0 := ⟨aw_152, aw_147, aw_153, by decide +kernel⟩
set_option maxRecDepth 20000 in
theorem cf_X0_77 : CF RX0 77 yX0_isDigit cX0_isDigit 3 (some .boolean) 3 := ⟨aw_154, aw_147, aw_155, by decide +kernel⟩
set_option maxRecDepth 20000 in
theorem cf_X0_81 : CF RX0 81 yX0_begins cX0_begins 2 (some .boolean) 1 := ⟨aw_156, aw_147, aw_157, by decide +kernel⟩
set_option maxRecDepth 20000 in
theorem cf_X0_85 : CF RX0 85 yX0_cheeseGoesOn cX0_cheeseGoesOn 4 (some .boolean) 2 := ⟨aw_158, aw_147, aw_159, by decide +kernel⟩
set_option maxRecDepth 20000 in
theorem cf_X0_88 : CF RX0 88 yX0_talkGoesOn cX0_talkGoesOn 4 (some .boolean) 2 := ⟨aw_160, aw_147, aw_161, by decide +kernel⟩
set_option maxRecDepth 20000 in
theorem cf_X0_91 : CF RX0 91 yX0_kindOf cX0_kindOf 1 (some .int) 1 := ⟨aw_162, aw_147, aw_163, by decide +kernel⟩
set_option maxRecDepth 20000 in
theorem cf_X0_95 : CF RX0 95 yX0_carriedTo cX0_carriedTo 6 (some .int) 2 := ⟨aw_164, aw_147, aw_165, by decide +kernel⟩
set_option maxRecDepth 20000 in
theorem cf_X0_116 : CF RX0 116 yX0_cellarOn cX0_cellarOn 3 (some .int) 2 := ⟨aw_166, aw_147, aw_167, by decide +kernel⟩
set_option maxRecDepth 20000 in
theorem cf_X0_119 : CF RX0 119 yX0_catches cX0_catches 7 (some .boolean) 4 := ⟨aw_168, aw_147, aw_169, by decide +kernel⟩
set_option maxRecDepth 20000 in
theorem cf_X0_123 : CF RX0 123 yX0_talksTo cX0_talksTo 7 (some .int) 2 := ⟨aw_170, aw_147, aw_171, by decide +kernel⟩
set_option maxRecDepth 20000 in
theorem cf_X0_126 : CF RX0 126 yX0_wordsDown cX0_wordsDown 6 (some .int) 2 := ⟨aw_172, aw_147, aw_173, by decide +kernel⟩
set_option maxRecDepth 20000 in
theorem cf_X0_129 : CF RX0 129 yX0_talkAt cX0_talkAt 5 (some .int) 2 := ⟨aw_174, aw_147, aw_175, by decide +kernel⟩
set_option maxRecDepth 20000 in
theorem cf_X1_22 : CF RX1 22 yJ7_fill_53178 cJ7_fill_53178 4 none 2 := ⟨aw_149, aw_150, aw_176, by decide +kernel⟩
set_option maxRecDepth 20000 in
theorem cf_X1_28 : CF RX1 28 yX1_hasNothing cX1_hasNothing 1 (some .boolean) 0 := ⟨aw_177, aw_178, aw_179, by decide +kernel⟩
set_option maxRecDepth 20000 in
theorem cf_X2_37 : CF RX2 37 yX0_wordsTo cX0_wordsTo 3 (some .int) 2 := ⟨aw_180, aw_147, aw_181, by decide +kernel⟩
set_option maxRecDepth 20000 in
theorem cf_X2_41 : CF RX2 41 yX2_shelveFrom cX2_shelveFrom 4 none 2 := ⟨aw_182, aw_183, aw_184, by decide +kernel⟩
set_option maxRecDepth 20000 in
theorem cf_X2_45 : CF RX2 45 yJ6_bitCount_0f7a4 cJ6_bitCount_0f7a4 1 (some .int) 1 := ⟨aw_185, aw_186, aw_187, by decide +kernel⟩
set_option maxRecDepth 20000 in
theorem cf_X4_42 : CF RX4 42 yX4_measure cX4_measure 8 none 3 := ⟨aw_188, aw_189, aw_190, by decide +kernel⟩
set_option maxRecDepth 20000 in
theorem cf_X4_46 : CF RX4 46 yX4_cutFrom cX4_cutFrom 6 none 3 := ⟨aw_191, aw_189, aw_192, by decide +kernel⟩
set_option maxRecDepth 20000 in
theorem cf_X4_50 : CF RX4 50 yX0_talksTo cX0_talksTo 7 (some .int) 2 := ⟨aw_170, aw_147, aw_193, by decide +kernel⟩
set_option maxRecDepth 20000 in
theorem cf_X4_54 : CF RX4 54 yJ6_bitCount_0f7a4 cJ6_bitCount_0f7a4 1 (some .int) 1 := ⟨aw_185, aw_186, aw_194, by decide +kernel⟩
set_option maxRecDepth 20000 in
theorem cf_X4_60 : CF RX4 60 yX0_wordsDown cX0_wordsDown 6 (some .int) 2 := ⟨aw_172, aw_147, aw_195, by decide +kernel⟩
set_option maxRecDepth 20000 in
theorem cf_X5_25 : CF RX5 25 yJ7_fill_53178 cJ7_fill_53178 4 none 2 := ⟨aw_149, aw_150, aw_196, by decide +kernel⟩
set_option maxRecDepth 20000 in
theorem cf_X5_36 : CF RX5 36 yX5_spread cX5_spread 12 none 5 := ⟨aw_197, aw_198, aw_199, by decide +kernel⟩
set_option maxRecDepth 20000 in
theorem cf_X5_43 : CF RX5 43 yX5_reduce cX5_reduce 2 none 0 := ⟨aw_200, aw_198, aw_201, by decide +kernel⟩
set_option maxRecDepth 20000 in
theorem cf_X5_46 : CF RX5 46 yX0_cellarOn cX0_cellarOn 3 (some .int) 2 := ⟨aw_166, aw_147, aw_202, by decide +kernel⟩
set_option maxRecDepth 20000 in
theorem cf_X5_50 : CF RX5 50 yX0_catches cX0_catches 7 (some .boolean) 4 := ⟨aw_168, aw_147, aw_203, by decide +kernel⟩
set_option maxRecDepth 20000 in
theorem cf_X6_56 : CF RX6 56 yX6_isSheet cX6_isSheet 1 (some .boolean) 1 := ⟨aw_204, aw_205, aw_206, by decide +kernel⟩
set_option maxRecDepth 20000 in
theorem cf_X6_60 : CF RX6 60 yX6_isLane cX6_isLane 1 (some .boolean) 1 := ⟨aw_207, aw_205, aw_208, by decide +kernel⟩
set_option maxRecDepth 20000 in
theorem cf_X6_63 : CF RX6 63 yX1_faultAs cX1_faultAs 2 (some .int) 1 := ⟨aw_209, aw_178, aw_210, by decide +kernel⟩
set_option maxRecDepth 20000 in
theorem cf_X6_67 : CF RX6 67 yX1_hasCells cX1_hasCells 3 (some .boolean) 2 := ⟨aw_211, aw_178, aw_212, by decide +kernel⟩
set_option maxRecDepth 20000 in
theorem cf_X6_71 : CF RX6 71 yX6_faulty cX6_faulty 2 (some .int) 1 := ⟨aw_213, aw_205, aw_214, by decide +kernel⟩
set_option maxRecDepth 20000 in
theorem cf_X6_78 : CF RX6 78 yX0_takeText cX0_takeText 5 (some .int) 3 := ⟨aw_215, aw_147, aw_216, by decide +kernel⟩
set_option maxRecDepth 20000 in
theorem cf_X6_85 : CF RX6 85 yX6_isCheese cX6_isCheese 2 (some .boolean) 1 := ⟨aw_217, aw_205, aw_218, by decide +kernel⟩
set_option maxRecDepth 20000 in
theorem cf_X6_100 : CF RX6 100 yX6_isTalk cX6_isTalk 2 (some .boolean) 1 := ⟨aw_219, aw_205, aw_220, by decide +kernel⟩
set_option maxRecDepth 20000 in
theorem cf_X6_115 : CF RX6 115 yX6_isDay cX6_isDay 1 (some .boolean) 1 := ⟨aw_221, aw_205, aw_222, by decide +kernel⟩
set_option maxRecDepth 20000 in
theorem cf_X6_122 : CF RX6 122 yX3_add cX3_add 4 (some .int) 3 := ⟨aw_223, aw_224, aw_225, by decide +kernel⟩
set_option maxRecDepth 20000 in
theorem cf_X6_128 : CF RX6 128 yX0_carry cX0_carry 3 none 0 := ⟨aw_152, aw_147, aw_226, by decide +kernel⟩
set_option maxRecDepth 20000 in
theorem cf_X6_131 : CF RX6 131 yX3_takeBack cX3_takeBack 2 (some .int) 1 := ⟨aw_227, aw_224, aw_228, by decide +kernel⟩
set_option maxRecDepth 20000 in
theorem cf_X6_134 : CF RX6 134 yX0_cellarOn cX0_cellarOn 3 (some .int) 2 := ⟨aw_166, aw_147, aw_229, by decide +kernel⟩
set_option maxRecDepth 20000 in
theorem cf_X6_138 : CF RX6 138 yX0_talksTo cX0_talksTo 7 (some .int) 2 := ⟨aw_170, aw_147, aw_230, by decide +kernel⟩
set_option maxRecDepth 20000 in
theorem cf_X6_141 : CF RX6 141 yX0_talkAt cX0_talkAt 5 (some .int) 2 := ⟨aw_174, aw_147, aw_231, by decide +kernel⟩
set_option maxRecDepth 20000 in
theorem cf_X6_144 : CF RX6 144 yX6_isWord cX6_isWord 1 (some .boolean) 1 := ⟨aw_232, aw_205, aw_233, by decide +kernel⟩
set_option maxRecDepth 20000 in
theorem cf_X6_147 : CF RX6 147 yX0_depthOf cX0_depthOf 5 (some .int) 2 := ⟨aw_234, aw_147, aw_235, by decide +kernel⟩
set_option maxRecDepth 20000 in
theorem cf_X6_150 : CF RX6 150 yX6_hasNoDairy cX6_hasNoDairy 1 (some .boolean) 0 := ⟨aw_236, aw_205, aw_237, by decide +kernel⟩
set_option maxRecDepth 20000 in
theorem cf_X6_154 : CF RX6 154 yX6_cutPairs cX6_cutPairs 11 (some .int) 4 := ⟨aw_238, aw_205, aw_239, by decide +kernel⟩
set_option maxRecDepth 20000 in
theorem cf_X6_158 : CF RX6 158 yX0_wordsDown cX0_wordsDown 6 (some .int) 2 := ⟨aw_172, aw_147, aw_240, by decide +kernel⟩
set_option maxRecDepth 20000 in
theorem cf_X6_161 : CF RX6 161 yX6_isWordSet cX6_isWordSet 1 (some .boolean) 1 := ⟨aw_241, aw_205, aw_242, by decide +kernel⟩
set_option maxRecDepth 20000 in
theorem cf_X6_164 : CF RX6 164 yX4_find cX4_find 5 none 3 := ⟨aw_243, aw_189, aw_244, by decide +kernel⟩
set_option maxRecDepth 20000 in
theorem cf_X6_174 : CF RX6 174 yX2_find cX2_find 4 none 1 := ⟨aw_245, aw_183, aw_246, by decide +kernel⟩
set_option maxRecDepth 20000 in
theorem cf_X6_184 : CF RX6 184 yX0_wordsTo cX0_wordsTo 3 (some .int) 2 := ⟨aw_180, aw_147, aw_247, by decide +kernel⟩
set_option maxRecDepth 20000 in
theorem cf_X6_190 : CF RX6 190 yX6_fitting cX6_fitting 8 (some .int) 4 := ⟨aw_248, aw_205, aw_249, by decide +kernel⟩
set_option maxRecDepth 20000 in
theorem cf_X6_193 : CF RX6 193 yX0_readingsAreSo cX0_readingsAreSo 4 (some .boolean) 0 := ⟨aw_250, aw_147, aw_251, by decide +kernel⟩
set_option maxRecDepth 20000 in
theorem cf_X6_198 : CF RX6 198 yX5_weigh cX5_weigh 6 none 3 := ⟨aw_252, aw_198, aw_253, by decide +kernel⟩
set_option maxRecDepth 20000 in
theorem cf_X6_207 : CF RX6 207 yX1_begin cX1_begin 3 none 2 := ⟨aw_254, aw_178, aw_255, by decide +kernel⟩
set_option maxRecDepth 20000 in
theorem cf_X6_211 : CF RX6 211 yX1_empty cX1_empty 2 (some .boolean) 0 := ⟨aw_256, aw_178, aw_257, by decide +kernel⟩
set_option maxRecDepth 20000 in
theorem cf_X6_214 : CF RX6 214 yX1_hasNothing cX1_hasNothing 1 (some .boolean) 0 := ⟨aw_177, aw_178, aw_258, by decide +kernel⟩
set_option maxRecDepth 20000 in
theorem cf_X6_217 : CF RX6 217 yX1_cutToLane cX1_cutToLane 2 (some .int) 1 := ⟨aw_259, aw_178, aw_260, by decide +kernel⟩
set_option maxRecDepth 20000 in
theorem cf_X6_229 : CF RX6 229 yX6_mitedTells cX6_mitedTells 3 (some .int) 1 := ⟨aw_261, aw_205, aw_262, by decide +kernel⟩
set_option maxRecDepth 20000 in
theorem cf_X6_232 : CF RX6 232 yX6_waxedTells cX6_waxedTells 2 (some .int) 1 := ⟨aw_263, aw_205, aw_264, by decide +kernel⟩
set_option maxRecDepth 20000 in
theorem cf_X6_235 : CF RX6 235 yX6_plainTells cX6_plainTells 2 (some .int) 1 := ⟨aw_265, aw_205, aw_266, by decide +kernel⟩
set_option maxRecDepth 20000 in
theorem cf_X6_238 : CF RX6 238 yX6_leave cX6_leave 2 none 1 := ⟨aw_267, aw_205, aw_268, by decide +kernel⟩
set_option maxRecDepth 20000 in
theorem cf_X7_79 : CF RX7 79 yX7_within cX7_within 3 (some .boolean) 3 := ⟨aw_269, aw_270, aw_271, by decide +kernel⟩
set_option maxRecDepth 20000 in
theorem cf_X7_95 : CF RX7 95 yX7_isSheet cX7_isSheet 1 (some .boolean) 1 := ⟨aw_272, aw_270, aw_273, by decide +kernel⟩
set_option maxRecDepth 20000 in
theorem cf_X7_99 : CF RX7 99 yX7_isSort cX7_isSort 1 (some .boolean) 1 := ⟨aw_274, aw_270, aw_275, by decide +kernel⟩
set_option maxRecDepth 20000 in
theorem cf_X7_102 : CF RX7 102 yX7_against cX7_against 5 (some .int) 4 := ⟨aw_276, aw_270, aw_277, by decide +kernel⟩
set_option maxRecDepth 20000 in
theorem cf_X7_106 : CF RX7 106 yX7_fails cX7_fails 2 (some .int) 1 := ⟨aw_278, aw_270, aw_279, by decide +kernel⟩
set_option maxRecDepth 20000 in
theorem cf_X7_110 : CF RX7 110 yX7_readDairy cX7_readDairy 2 (some .boolean) 1 := ⟨aw_280, aw_270, aw_281, by decide +kernel⟩
set_option maxRecDepth 20000 in
theorem cf_X7_113 : CF RX7 113 yX7_takeDairy cX7_takeDairy 2 none 0 := ⟨aw_282, aw_270, aw_283, by decide +kernel⟩
set_option maxRecDepth 20000 in
theorem cf_X7_131 : CF RX7 131 yX7_isSign cX7_isSign 3 (some .boolean) 2 := ⟨aw_284, aw_270, aw_285, by decide +kernel⟩
set_option maxRecDepth 20000 in
theorem cf_X7_135 : CF RX7 135 yX7_digit cX7_digit 4 (some .int) 3 := ⟨aw_286, aw_270, aw_287, by decide +kernel⟩
set_option maxRecDepth 20000 in
theorem cf_X7_139 : CF RX7 139 yX7_readOneCheese cX7_readOneCheese 4 (some .boolean) 1 := ⟨aw_288, aw_270, aw_289, by decide +kernel⟩
set_option maxRecDepth 20000 in
theorem cf_X7_142 : CF RX7 142 yX7_readOneTalk cX7_readOneTalk 3 (some .boolean) 1 := ⟨aw_290, aw_270, aw_291, by decide +kernel⟩
set_option maxRecDepth 20000 in
theorem cf_X7_145 : CF RX7 145 yX7_isCheese cX7_isCheese 2 (some .boolean) 1 := ⟨aw_292, aw_270, aw_293, by decide +kernel⟩
set_option maxRecDepth 20000 in
theorem cf_X7_148 : CF RX7 148 yX7_isTalk cX7_isTalk 2 (some .boolean) 1 := ⟨aw_294, aw_270, aw_295, by decide +kernel⟩
set_option maxRecDepth 20000 in
theorem cf_X7_151 : CF RX7 151 yX7_isCellar cX7_isCellar 2 (some .boolean) 1 := ⟨aw_296, aw_270, aw_297, by decide +kernel⟩
set_option maxRecDepth 20000 in
theorem cf_X7_154 : CF RX7 154 yX7_isDay cX7_isDay 1 (some .boolean) 1 := ⟨aw_298, aw_270, aw_299, by decide +kernel⟩
set_option maxRecDepth 20000 in
theorem cf_X7_157 : CF RX7 157 yX7_whereOf cX7_whereOf 6 (some .int) 2 := ⟨aw_300, aw_270, aw_301, by decide +kernel⟩
set_option maxRecDepth 20000 in
theorem cf_X7_164 : CF RX7 164 yX7_isTurned cX7_isTurned 3 (some .boolean) 2 := ⟨aw_302, aw_270, aw_303, by decide +kernel⟩
set_option maxRecDepth 20000 in
theorem cf_X7_167 : CF RX7 167 yX7_comes cX7_comes 5 (some .int) 2 := ⟨aw_304, aw_270, aw_305, by decide +kernel⟩
set_option maxRecDepth 20000 in
theorem cf_X7_170 : CF RX7 170 yX7_heardBy cX7_heardBy 6 (some .int) 1 := ⟨aw_306, aw_270, aw_307, by decide +kernel⟩
set_option maxRecDepth 20000 in
theorem cf_X7_173 : CF RX7 173 yX7_layerOf cX7_layerOf 5 (some .int) 2 := ⟨aw_308, aw_270, aw_309, by decide +kernel⟩
set_option maxRecDepth 20000 in
theorem cf_X7_176 : CF RX7 176 yX7_isWord cX7_isWord 1 (some .boolean) 1 := ⟨aw_310, aw_270, aw_311, by decide +kernel⟩
set_option maxRecDepth 20000 in
theorem cf_X7_179 : CF RX7 179 yX7_size cX7_size 3 (some .int) 1 := ⟨aw_312, aw_270, aw_313, by decide +kernel⟩
set_option maxRecDepth 20000 in
theorem cf_X7_182 : CF RX7 182 yX7_wordsOf cX7_wordsOf 5 (some .int) 2 := ⟨aw_314, aw_270, aw_315, by decide +kernel⟩
set_option maxRecDepth 20000 in
theorem cf_X7_185 : CF RX7 185 yX7_rowsOf cX7_rowsOf 4 (some .int) 1 := ⟨aw_316, aw_270, aw_317, by decide +kernel⟩
set_option maxRecDepth 20000 in
theorem cf_X7_188 : CF RX7 188 yX7_layRow cX7_layRow 5 none 2 := ⟨aw_318, aw_270, aw_319, by decide +kernel⟩
set_option maxRecDepth 20000 in
theorem cf_X7_192 : CF RX7 192 yX7_sparedBy cX7_sparedBy 7 (some .int) 2 := ⟨aw_320, aw_270, aw_321, by decide +kernel⟩
set_option maxRecDepth 20000 in
theorem cf_X7_195 : CF RX7 195 yX7_keepRow cX7_keepRow 2 none 0 := ⟨aw_322, aw_270, aw_323, by decide +kernel⟩
set_option maxRecDepth 20000 in
theorem cf_X7_198 : CF RX7 198 yX7_findSpare cX7_findSpare 6 (some .int) 2 := ⟨aw_324, aw_270, aw_325, by decide +kernel⟩
set_option maxRecDepth 20000 in
theorem cf_X7_201 : CF RX7 201 yX7_wordsHeard cX7_wordsHeard 3 (some .int) 0 := ⟨aw_326, aw_270, aw_327, by decide +kernel⟩
set_option maxRecDepth 20000 in
theorem cf_X7_205 : CF RX7 205 yX7_findShelves cX7_findShelves 5 (some .int) 0 := ⟨aw_328, aw_270, aw_329, by decide +kernel⟩
set_option maxRecDepth 20000 in
theorem cf_X7_208 : CF RX7 208 yX7_areSo cX7_areSo 3 (some .boolean) 0 := ⟨aw_330, aw_270, aw_331, by decide +kernel⟩
set_option maxRecDepth 20000 in
theorem cf_X7_212 : CF RX7 212 yX7_inLeastTerms cX7_inLeastTerms 11 (some .long) 3 := ⟨aw_332, aw_270, aw_333, by decide +kernel⟩
set_option maxRecDepth 20000 in
theorem cf_X7_216 : CF RX7 216 yX7_lost cX7_lost 2 (some .long) 1 := ⟨aw_334, aw_270, aw_335, by decide +kernel⟩
set_option maxRecDepth 20000 in
theorem cf_X7_223 : CF RX7 223 yX7_begins cX7_begins 2 none 1 := ⟨aw_336, aw_270, aw_337, by decide +kernel⟩
set_option maxRecDepth 20000 in
theorem cv_X0_begins : CV yX0_begins 0 := ⟨aw_338, aw_339, TX0, 14, rfl⟩
set_option maxRecDepth 20000 in
theorem cv_X0_carriedTo : CV yX0_carriedTo 0 := ⟨aw_340, aw_341, TX0, 14, rfl⟩
set_option maxRecDepth 20000 in
theorem cv_X0_carry : CV yX0_carry 0 := ⟨aw_342, aw_343, TX0, 14, rfl⟩
set_option maxRecDepth 20000 in
theorem cv_X0_catches : CV yX0_catches 0 := ⟨aw_344, aw_345, TX0, 14, rfl⟩
set_option maxRecDepth 20000 in
theorem cv_X0_cellarOn : CV yX0_cellarOn 0 := ⟨aw_346, aw_347, TX0, 14, rfl⟩
set_option maxRecDepth 20000 in
theorem cv_X0_cheeseGoesOn : CV yX0_cheeseGoesOn 0 := ⟨aw_348, aw_349, TX0, 14, rfl⟩
set_option maxRecDepth 20000 in
theorem cv_X0_depthOf : CV yX0_depthOf 0 := ⟨aw_350, aw_351, TX0, 14, rfl⟩
set_option maxRecDepth 20000 in
theorem cv_X0_goesOn : CV yX0_goesOn 0 := ⟨aw_352, aw_353, TX0, 14, rfl⟩
set_option maxRecDepth 20000 in
theorem cv_X0_readingsAreSo : CV yX0_readingsAreSo 0 := ⟨aw_354, aw_355, TX0, 14, rfl⟩
set_option maxRecDepth 20000 in
theorem cv_X0_takeText : CV yX0_takeText 0 := ⟨aw_356, aw_357, TX0, 14, rfl⟩
set_option maxRecDepth 20000 in
theorem cv_X0_talkAt : CV yX0_talkAt 0 := ⟨aw_358, aw_359, TX0, 14, rfl⟩
set_option maxRecDepth 20000 in
theorem cv_X0_talkGoesOn : CV yX0_talkGoesOn 0 := ⟨aw_360, aw_361, TX0, 14, rfl⟩
set_option maxRecDepth 20000 in
theorem cv_X0_talksTo : CV yX0_talksTo 0 := ⟨aw_362, aw_363, TX0, 14, rfl⟩
set_option maxRecDepth 20000 in
theorem cv_X0_wordsDown : CV yX0_wordsDown 0 := ⟨aw_364, aw_365, TX0, 14, rfl⟩
set_option maxRecDepth 20000 in
theorem cv_X0_wordsTo : CV yX0_wordsTo 0 := ⟨aw_366, aw_367, TX0, 14, rfl⟩
set_option maxRecDepth 20000 in
theorem cv_X1_begin : CV yX1_begin 1 := ⟨aw_368, aw_369, TX1, 3, rfl⟩
set_option maxRecDepth 20000 in
theorem cv_X1_cutToLane : CV yX1_cutToLane 1 := ⟨aw_370, aw_371, TX1, 3, rfl⟩
set_option maxRecDepth 20000 in
theorem cv_X1_empty : CV yX1_empty 1 := ⟨aw_372, aw_373, TX1, 3, rfl⟩
set_option maxRecDepth 20000 in
theorem cv_X1_faultAs : CV yX1_faultAs 1 := ⟨aw_374, aw_375, TX1, 3, rfl⟩
set_option maxRecDepth 20000 in
theorem cv_X1_hasCells : CV yX1_hasCells 1 := ⟨aw_376, aw_377, TX1, 3, rfl⟩
set_option maxRecDepth 20000 in
theorem cv_X1_hasNothing : CV yX1_hasNothing 1 := ⟨aw_378, aw_379, TX1, 3, rfl⟩
set_option maxRecDepth 20000 in
theorem cv_X2_find : CV yX2_find 2 := ⟨aw_380, aw_381, TX2, 6, rfl⟩
set_option maxRecDepth 20000 in
theorem cv_X2_shelveFrom : CV yX2_shelveFrom 2 := ⟨aw_382, aw_383, TX2, 6, rfl⟩
set_option maxRecDepth 20000 in
theorem cv_X3_add : CV yX3_add 3 := ⟨aw_384, aw_385, TX3, 4, rfl⟩
set_option maxRecDepth 20000 in
theorem cv_X3_takeBack : CV yX3_takeBack 3 := ⟨aw_386, aw_387, TX3, 4, rfl⟩
set_option maxRecDepth 20000 in
theorem cv_X4_cutFrom : CV yX4_cutFrom 4 := ⟨aw_388, aw_389, TX4, 8, rfl⟩
set_option maxRecDepth 20000 in
theorem cv_X4_find : CV yX4_find 4 := ⟨aw_390, aw_391, TX4, 8, rfl⟩
set_option maxRecDepth 20000 in
theorem cv_X4_measure : CV yX4_measure 4 := ⟨aw_392, aw_393, TX4, 8, rfl⟩
set_option maxRecDepth 20000 in
theorem cv_X5_reduce : CV yX5_reduce 5 := ⟨aw_394, aw_395, TX5, 4, rfl⟩
set_option maxRecDepth 20000 in
theorem cv_X5_spread : CV yX5_spread 5 := ⟨aw_396, aw_397, TX5, 4, rfl⟩
set_option maxRecDepth 20000 in
theorem cv_X5_weigh : CV yX5_weigh 5 := ⟨aw_398, aw_399, TX5, 4, rfl⟩
set_option maxRecDepth 20000 in
theorem cv_X6_cutPairs : CV yX6_cutPairs 6 := ⟨aw_400, aw_401, TX6, 8, rfl⟩
set_option maxRecDepth 20000 in
theorem cv_X6_faulty : CV yX6_faulty 6 := ⟨aw_402, aw_403, TX6, 8, rfl⟩
set_option maxRecDepth 20000 in
theorem cv_X6_fitting : CV yX6_fitting 6 := ⟨aw_404, aw_405, TX6, 8, rfl⟩
set_option maxRecDepth 20000 in
theorem cv_X6_hasNoDairy : CV yX6_hasNoDairy 6 := ⟨aw_406, aw_407, TX6, 8, rfl⟩
set_option maxRecDepth 20000 in
theorem cv_X6_isCheese : CV yX6_isCheese 6 := ⟨aw_408, aw_409, TX6, 8, rfl⟩
set_option maxRecDepth 20000 in
theorem cv_X6_isTalk : CV yX6_isTalk 6 := ⟨aw_410, aw_411, TX6, 8, rfl⟩
set_option maxRecDepth 20000 in
theorem cv_X6_leave : CV yX6_leave 6 := ⟨aw_412, aw_413, TX6, 8, rfl⟩
set_option maxRecDepth 20000 in
theorem cv_X6_mitedTells : CV yX6_mitedTells 6 := ⟨aw_414, aw_415, TX6, 8, rfl⟩
set_option maxRecDepth 20000 in
theorem cv_X6_plainTells : CV yX6_plainTells 6 := ⟨aw_416, aw_417, TX6, 8, rfl⟩
set_option maxRecDepth 20000 in
theorem cv_X6_waxedTells : CV yX6_waxedTells 6 := ⟨aw_418, aw_419, TX6, 8, rfl⟩
set_option maxRecDepth 20000 in
theorem cv_X7_against : CV yX7_against 7 := ⟨aw_420, aw_421, TX7, 33, rfl⟩
set_option maxRecDepth 20000 in
theorem cv_X7_areSo : CV yX7_areSo 7 := ⟨aw_422, aw_423, TX7, 33, rfl⟩
set_option maxRecDepth 20000 in
theorem cv_X7_begins : CV yX7_begins 7 := ⟨aw_424, aw_425, TX7, 33, rfl⟩
set_option maxRecDepth 20000 in
theorem cv_X7_comes : CV yX7_comes 7 := ⟨aw_426, aw_427, TX7, 33, rfl⟩
set_option maxRecDepth 20000 in
theorem cv_X7_digit : CV yX7_digit 7 := ⟨aw_428, aw_429, TX7, 33, rfl⟩
set_option maxRecDepth 20000 in
theorem cv_X7_fails : CV yX7_fails 7 := ⟨aw_430, aw_431, TX7, 33, rfl⟩
set_option maxRecDepth 20000 in
theorem cv_X7_findShelves : CV yX7_findShelves 7 := ⟨aw_432, aw_433, TX7, 33, rfl⟩
set_option maxRecDepth 20000 in
theorem cv_X7_findSpare : CV yX7_findSpare 7 := ⟨aw_434, aw_435, TX7, 33, rfl⟩
set_option maxRecDepth 20000 in
theorem cv_X7_heardBy : CV yX7_heardBy 7 := ⟨aw_436, aw_437, TX7, 33, rfl⟩
set_option maxRecDepth 20000 in
theorem cv_X7_isCellar : CV yX7_isCellar 7 := ⟨aw_438, aw_439, TX7, 33, rfl⟩
set_option maxRecDepth 20000 in
theorem cv_X7_isCheese : CV yX7_isCheese 7 := ⟨aw_440, aw_441, TX7, 33, rfl⟩
set_option maxRecDepth 20000 in
theorem cv_X7_isSign : CV yX7_isSign 7 := ⟨aw_442, aw_443, TX7, 33, rfl⟩
set_option maxRecDepth 20000 in
theorem cv_X7_isTalk : CV yX7_isTalk 7 := ⟨aw_444, aw_445, TX7, 33, rfl⟩
set_option maxRecDepth 20000 in
theorem cv_X7_isTurned : CV yX7_isTurned 7 := ⟨aw_446, aw_447, TX7, 33, rfl⟩
set_option maxRecDepth 20000 in
theorem cv_X7_keepRow : CV yX7_keepRow 7 := ⟨aw_448, aw_449, TX7, 33, rfl⟩
set_option maxRecDepth 20000 in
theorem cv_X7_layRow : CV yX7_layRow 7 := ⟨aw_450, aw_451, TX7, 33, rfl⟩
set_option maxRecDepth 20000 in
theorem cv_X7_layerOf : CV yX7_layerOf 7 := ⟨aw_452, aw_453, TX7, 33, rfl⟩
set_option maxRecDepth 20000 in
theorem cv_X7_lost : CV yX7_lost 7 := ⟨aw_454, aw_455, TX7, 33, rfl⟩
set_option maxRecDepth 20000 in
theorem cv_X7_readDairy : CV yX7_readDairy 7 := ⟨aw_456, aw_457, TX7, 33, rfl⟩
set_option maxRecDepth 20000 in
theorem cv_X7_readOneCheese : CV yX7_readOneCheese 7 := ⟨aw_458, aw_459, TX7, 33, rfl⟩
set_option maxRecDepth 20000 in
theorem cv_X7_readOneTalk : CV yX7_readOneTalk 7 := ⟨aw_460, aw_461, TX7, 33, rfl⟩
set_option maxRecDepth 20000 in
theorem cv_X7_rowsOf : CV yX7_rowsOf 7 := ⟨aw_462, aw_463, TX7, 33, rfl⟩
set_option maxRecDepth 20000 in
theorem cv_X7_sparedBy : CV yX7_sparedBy 7 := ⟨aw_464, aw_465, TX7, 33, rfl⟩
set_option maxRecDepth 20000 in
theorem cv_X7_takeDairy : CV yX7_takeDairy 7 := ⟨aw_466, aw_467, TX7, 33, rfl⟩
set_option maxRecDepth 20000 in
theorem cv_X7_whereOf : CV yX7_whereOf 7 := ⟨aw_468, aw_469, TX7, 33, rfl⟩
set_option maxRecDepth 20000 in
theorem cv_X7_wordsHeard : CV yX7_wordsHeard 7 := ⟨aw_470, aw_471, TX7, 33, rfl⟩
set_option maxRecDepth 20000 in
theorem cv_X7_wordsOf : CV yX7_wordsOf 7 := ⟨aw_472, aw_473, TX7, 33, rfl⟩
