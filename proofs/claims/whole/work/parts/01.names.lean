-- ===== PART A: goes FIRST, ahead of the names: the tables' words, and 'selects' of the private methods out of them =====
/-- a private method of a class that the tables say can be made, by its rows of tables_1 -/
def lw_okq (q : MethodName × Nat) : Prop := (q.1.cls ≠ "java/lang/invoke/MethodHandle" ∧ q.1.cls ≠ "java/lang/invoke/VarHandle") ∧ Cond.instantiable q.1.cls q.2 ∈ tables_1 ∧ Cond.privateMethod q.1 ∈ tables_1 ∧ Cond.instanceMethod q.1 ∈ tables_1
theorem lw_p0 : lw_okq (⟨"RindTalk", "faulty", "(I)I"⟩, 8) := ⟨⟨by decide +kernel, by decide +kernel⟩, List.mem_of_getElem? (i := 14) (by decide +kernel), List.mem_of_getElem? (i := 266) (by decide +kernel), List.mem_of_getElem? (i := 267) (by decide +kernel)⟩
theorem lw_p1 : lw_okq (⟨"RindTalk$Dairy", "goesOn", "(II)Z"⟩, 14) := ⟨⟨by decide +kernel, by decide +kernel⟩, List.mem_of_getElem? (i := 109) (by decide +kernel), List.mem_of_getElem? (i := 274) (by decide +kernel), List.mem_of_getElem? (i := 275) (by decide +kernel)⟩
theorem lw_p2 : lw_okq (⟨"RindTalk$Dairy", "begins", "(I)Z"⟩, 14) := ⟨⟨by decide +kernel, by decide +kernel⟩, List.mem_of_getElem? (i := 109) (by decide +kernel), List.mem_of_getElem? (i := 281) (by decide +kernel), List.mem_of_getElem? (i := 282) (by decide +kernel)⟩
theorem lw_p3 : lw_okq (⟨"RindTalk$Dairy", "cheeseGoesOn", "(II)Z"⟩, 14) := ⟨⟨by decide +kernel, by decide +kernel⟩, List.mem_of_getElem? (i := 109) (by decide +kernel), List.mem_of_getElem? (i := 285) (by decide +kernel), List.mem_of_getElem? (i := 286) (by decide +kernel)⟩
theorem lw_p4 : lw_okq (⟨"RindTalk$Dairy", "talkGoesOn", "(II)Z"⟩, 14) := ⟨⟨by decide +kernel, by decide +kernel⟩, List.mem_of_getElem? (i := 109) (by decide +kernel), List.mem_of_getElem? (i := 292) (by decide +kernel), List.mem_of_getElem? (i := 293) (by decide +kernel)⟩
theorem lw_p5 : lw_okq (⟨"RindTalk$Dairy", "carriedTo", "(II)I"⟩, 14) := ⟨⟨by decide +kernel, by decide +kernel⟩, List.mem_of_getElem? (i := 109) (by decide +kernel), List.mem_of_getElem? (i := 303) (by decide +kernel), List.mem_of_getElem? (i := 304) (by decide +kernel)⟩
theorem lw_p6 : lw_okq (⟨"RindTalk", "isCheese", "(I)Z"⟩, 8) := ⟨⟨by decide +kernel, by decide +kernel⟩, List.mem_of_getElem? (i := 14) (by decide +kernel), List.mem_of_getElem? (i := 311) (by decide +kernel), List.mem_of_getElem? (i := 312) (by decide +kernel)⟩
theorem lw_p7 : lw_okq (⟨"RindTalk", "isTalk", "(I)Z"⟩, 8) := ⟨⟨by decide +kernel, by decide +kernel⟩, List.mem_of_getElem? (i := 14) (by decide +kernel), List.mem_of_getElem? (i := 319) (by decide +kernel), List.mem_of_getElem? (i := 320) (by decide +kernel)⟩
theorem lw_p8 : lw_okq (⟨"RindTalk", "hasNoDairy", "()Z"⟩, 8) := ⟨⟨by decide +kernel, by decide +kernel⟩, List.mem_of_getElem? (i := 14) (by decide +kernel), List.mem_of_getElem? (i := 397) (by decide +kernel), List.mem_of_getElem? (i := 398) (by decide +kernel)⟩
theorem lw_p9 : lw_okq (⟨"RindTalk", "cutPairs", "([IIII)I"⟩, 8) := ⟨⟨by decide +kernel, by decide +kernel⟩, List.mem_of_getElem? (i := 14) (by decide +kernel), List.mem_of_getElem? (i := 401) (by decide +kernel), List.mem_of_getElem? (i := 402) (by decide +kernel)⟩
theorem lw_p10 : lw_okq (⟨"RindTalk$Sparing", "measure", "(LRindTalk$Dairy;II)V"⟩, 8) := ⟨⟨by decide +kernel, by decide +kernel⟩, List.mem_of_getElem? (i := 24) (by decide +kernel), List.mem_of_getElem? (i := 420) (by decide +kernel), List.mem_of_getElem? (i := 421) (by decide +kernel)⟩
theorem lw_p11 : lw_okq (⟨"RindTalk$Sparing", "cutFrom", "(III)V"⟩, 8) := ⟨⟨by decide +kernel, by decide +kernel⟩, List.mem_of_getElem? (i := 24) (by decide +kernel), List.mem_of_getElem? (i := 432) (by decide +kernel), List.mem_of_getElem? (i := 433) (by decide +kernel)⟩
theorem lw_p12 : lw_okq (⟨"RindTalk$Shelving", "shelveFrom", "(II)V"⟩, 6) := ⟨⟨by decide +kernel, by decide +kernel⟩, List.mem_of_getElem? (i := 60) (by decide +kernel), List.mem_of_getElem? (i := 453) (by decide +kernel), List.mem_of_getElem? (i := 454) (by decide +kernel)⟩
theorem lw_p13 : lw_okq (⟨"RindTalk", "fitting", "([IIII)I"⟩, 8) := ⟨⟨by decide +kernel, by decide +kernel⟩, List.mem_of_getElem? (i := 14) (by decide +kernel), List.mem_of_getElem? (i := 480) (by decide +kernel), List.mem_of_getElem? (i := 481) (by decide +kernel)⟩
theorem lw_p14 : lw_okq (⟨"RindTalk$Whispers", "spread", "(LRindTalk$Dairy;IIII)V"⟩, 4) := ⟨⟨by decide +kernel, by decide +kernel⟩, List.mem_of_getElem? (i := 88) (by decide +kernel), List.mem_of_getElem? (i := 511) (by decide +kernel), List.mem_of_getElem? (i := 512) (by decide +kernel)⟩
theorem lw_p15 : lw_okq (⟨"RindTalk$Whispers", "reduce", "()V"⟩, 4) := ⟨⟨by decide +kernel, by decide +kernel⟩, List.mem_of_getElem? (i := 88) (by decide +kernel), List.mem_of_getElem? (i := 517) (by decide +kernel), List.mem_of_getElem? (i := 518) (by decide +kernel)⟩
def lw_privs_1 : List (MethodName × Nat) := [(⟨"RindTalk", "faulty", "(I)I"⟩, 8), (⟨"RindTalk$Dairy", "goesOn", "(II)Z"⟩, 14), (⟨"RindTalk$Dairy", "begins", "(I)Z"⟩, 14), (⟨"RindTalk$Dairy", "cheeseGoesOn", "(II)Z"⟩, 14), (⟨"RindTalk$Dairy", "talkGoesOn", "(II)Z"⟩, 14), (⟨"RindTalk$Dairy", "carriedTo", "(II)I"⟩, 14), (⟨"RindTalk", "isCheese", "(I)Z"⟩, 8), (⟨"RindTalk", "isTalk", "(I)Z"⟩, 8), (⟨"RindTalk", "hasNoDairy", "()Z"⟩, 8), (⟨"RindTalk", "cutPairs", "([IIII)I"⟩, 8), (⟨"RindTalk$Sparing", "measure", "(LRindTalk$Dairy;II)V"⟩, 8), (⟨"RindTalk$Sparing", "cutFrom", "(III)V"⟩, 8), (⟨"RindTalk$Shelving", "shelveFrom", "(II)V"⟩, 6), (⟨"RindTalk", "fitting", "([IIII)I"⟩, 8), (⟨"RindTalk$Whispers", "spread", "(LRindTalk$Dairy;IIII)V"⟩, 4), (⟨"RindTalk$Whispers", "reduce", "()V"⟩, 4)]
theorem lw_r1 : ∀ q ∈ lw_privs_1, lw_okq q := List.forall_mem_cons.mpr ⟨lw_p0, List.forall_mem_cons.mpr ⟨lw_p1, List.forall_mem_cons.mpr ⟨lw_p2, List.forall_mem_cons.mpr ⟨lw_p3, List.forall_mem_cons.mpr ⟨lw_p4, List.forall_mem_cons.mpr ⟨lw_p5, List.forall_mem_cons.mpr ⟨lw_p6, List.forall_mem_cons.mpr ⟨lw_p7, List.forall_mem_cons.mpr ⟨lw_p8, List.forall_mem_cons.mpr ⟨lw_p9, List.forall_mem_cons.mpr ⟨lw_p10, List.forall_mem_cons.mpr ⟨lw_p11, List.forall_mem_cons.mpr ⟨lw_p12, List.forall_mem_cons.mpr ⟨lw_p13, List.forall_mem_cons.mpr ⟨lw_p14, List.forall_mem_cons.mpr ⟨lw_p15, fun _ h => absurd h List.not_mem_nil⟩⟩⟩⟩⟩⟩⟩⟩⟩⟩⟩⟩⟩⟩⟩⟩
theorem lw_p16 : lw_okq (⟨"RindTalk", "mitedTells", "(I)I"⟩, 8) := ⟨⟨by decide +kernel, by decide +kernel⟩, List.mem_of_getElem? (i := 14) (by decide +kernel), List.mem_of_getElem? (i := 560) (by decide +kernel), List.mem_of_getElem? (i := 561) (by decide +kernel)⟩
theorem lw_p17 : lw_okq (⟨"RindTalk", "leave", "(I)V"⟩, 8) := ⟨⟨by decide +kernel, by decide +kernel⟩, List.mem_of_getElem? (i := 14) (by decide +kernel), List.mem_of_getElem? (i := 564) (by decide +kernel), List.mem_of_getElem? (i := 565) (by decide +kernel)⟩
theorem lw_p18 : lw_okq (⟨"RindTalk", "waxedTells", "(I)I"⟩, 8) := ⟨⟨by decide +kernel, by decide +kernel⟩, List.mem_of_getElem? (i := 14) (by decide +kernel), List.mem_of_getElem? (i := 568) (by decide +kernel), List.mem_of_getElem? (i := 569) (by decide +kernel)⟩
theorem lw_p19 : lw_okq (⟨"RindTalk", "plainTells", "(I)I"⟩, 8) := ⟨⟨by decide +kernel, by decide +kernel⟩, List.mem_of_getElem? (i := 14) (by decide +kernel), List.mem_of_getElem? (i := 572) (by decide +kernel), List.mem_of_getElem? (i := 573) (by decide +kernel)⟩
theorem lw_p20 : lw_okq (⟨"RindTalkModel", "against", "(IIII)I"⟩, 33) := ⟨⟨by decide +kernel, by decide +kernel⟩, List.mem_of_getElem? (i := 596) (by decide +kernel), List.mem_of_getElem? (i := 715) (by decide +kernel), List.mem_of_getElem? (i := 716) (by decide +kernel)⟩
theorem lw_p21 : lw_okq (⟨"RindTalkModel", "fails", "(I)I"⟩, 33) := ⟨⟨by decide +kernel, by decide +kernel⟩, List.mem_of_getElem? (i := 596) (by decide +kernel), List.mem_of_getElem? (i := 719) (by decide +kernel), List.mem_of_getElem? (i := 720) (by decide +kernel)⟩
theorem lw_p22 : lw_okq (⟨"RindTalkModel", "readDairy", "(I)Z"⟩, 33) := ⟨⟨by decide +kernel, by decide +kernel⟩, List.mem_of_getElem? (i := 596) (by decide +kernel), List.mem_of_getElem? (i := 723) (by decide +kernel), List.mem_of_getElem? (i := 724) (by decide +kernel)⟩
theorem lw_p23 : lw_okq (⟨"RindTalkModel", "isSign", "(II)Z"⟩, 33) := ⟨⟨by decide +kernel, by decide +kernel⟩, List.mem_of_getElem? (i := 596) (by decide +kernel), List.mem_of_getElem? (i := 727) (by decide +kernel), List.mem_of_getElem? (i := 728) (by decide +kernel)⟩
theorem lw_p24 : lw_okq (⟨"RindTalkModel", "digit", "(III)I"⟩, 33) := ⟨⟨by decide +kernel, by decide +kernel⟩, List.mem_of_getElem? (i := 596) (by decide +kernel), List.mem_of_getElem? (i := 731) (by decide +kernel), List.mem_of_getElem? (i := 732) (by decide +kernel)⟩
theorem lw_p25 : lw_okq (⟨"RindTalkModel", "readOneCheese", "(I)Z"⟩, 33) := ⟨⟨by decide +kernel, by decide +kernel⟩, List.mem_of_getElem? (i := 596) (by decide +kernel), List.mem_of_getElem? (i := 735) (by decide +kernel), List.mem_of_getElem? (i := 736) (by decide +kernel)⟩
theorem lw_p26 : lw_okq (⟨"RindTalkModel", "readOneTalk", "(I)Z"⟩, 33) := ⟨⟨by decide +kernel, by decide +kernel⟩, List.mem_of_getElem? (i := 596) (by decide +kernel), List.mem_of_getElem? (i := 739) (by decide +kernel), List.mem_of_getElem? (i := 740) (by decide +kernel)⟩
theorem lw_p27 : lw_okq (⟨"RindTalkModel", "takeDairy", "()V"⟩, 33) := ⟨⟨by decide +kernel, by decide +kernel⟩, List.mem_of_getElem? (i := 596) (by decide +kernel), List.mem_of_getElem? (i := 743) (by decide +kernel), List.mem_of_getElem? (i := 744) (by decide +kernel)⟩
theorem lw_p28 : lw_okq (⟨"RindTalkModel", "isCheese", "(I)Z"⟩, 33) := ⟨⟨by decide +kernel, by decide +kernel⟩, List.mem_of_getElem? (i := 596) (by decide +kernel), List.mem_of_getElem? (i := 751) (by decide +kernel), List.mem_of_getElem? (i := 752) (by decide +kernel)⟩
theorem lw_p29 : lw_okq (⟨"RindTalkModel", "isTalk", "(I)Z"⟩, 33) := ⟨⟨by decide +kernel, by decide +kernel⟩, List.mem_of_getElem? (i := 596) (by decide +kernel), List.mem_of_getElem? (i := 759) (by decide +kernel), List.mem_of_getElem? (i := 760) (by decide +kernel)⟩
theorem lw_p30 : lw_okq (⟨"RindTalkModel", "isCellar", "(I)Z"⟩, 33) := ⟨⟨by decide +kernel, by decide +kernel⟩, List.mem_of_getElem? (i := 596) (by decide +kernel), List.mem_of_getElem? (i := 767) (by decide +kernel), List.mem_of_getElem? (i := 768) (by decide +kernel)⟩
theorem lw_p31 : lw_okq (⟨"RindTalkModel", "whereOf", "(II)I"⟩, 33) := ⟨⟨by decide +kernel, by decide +kernel⟩, List.mem_of_getElem? (i := 596) (by decide +kernel), List.mem_of_getElem? (i := 786) (by decide +kernel), List.mem_of_getElem? (i := 787) (by decide +kernel)⟩
def lw_privs_2 : List (MethodName × Nat) := [(⟨"RindTalk", "mitedTells", "(I)I"⟩, 8), (⟨"RindTalk", "leave", "(I)V"⟩, 8), (⟨"RindTalk", "waxedTells", "(I)I"⟩, 8), (⟨"RindTalk", "plainTells", "(I)I"⟩, 8), (⟨"RindTalkModel", "against", "(IIII)I"⟩, 33), (⟨"RindTalkModel", "fails", "(I)I"⟩, 33), (⟨"RindTalkModel", "readDairy", "(I)Z"⟩, 33), (⟨"RindTalkModel", "isSign", "(II)Z"⟩, 33), (⟨"RindTalkModel", "digit", "(III)I"⟩, 33), (⟨"RindTalkModel", "readOneCheese", "(I)Z"⟩, 33), (⟨"RindTalkModel", "readOneTalk", "(I)Z"⟩, 33), (⟨"RindTalkModel", "takeDairy", "()V"⟩, 33), (⟨"RindTalkModel", "isCheese", "(I)Z"⟩, 33), (⟨"RindTalkModel", "isTalk", "(I)Z"⟩, 33), (⟨"RindTalkModel", "isCellar", "(I)Z"⟩, 33), (⟨"RindTalkModel", "whereOf", "(II)I"⟩, 33)]
theorem lw_r2 : ∀ q ∈ lw_privs_2, lw_okq q := List.forall_mem_cons.mpr ⟨lw_p16, List.forall_mem_cons.mpr ⟨lw_p17, List.forall_mem_cons.mpr ⟨lw_p18, List.forall_mem_cons.mpr ⟨lw_p19, List.forall_mem_cons.mpr ⟨lw_p20, List.forall_mem_cons.mpr ⟨lw_p21, List.forall_mem_cons.mpr ⟨lw_p22, List.forall_mem_cons.mpr ⟨lw_p23, List.forall_mem_cons.mpr ⟨lw_p24, List.forall_mem_cons.mpr ⟨lw_p25, List.forall_mem_cons.mpr ⟨lw_p26, List.forall_mem_cons.mpr ⟨lw_p27, List.forall_mem_cons.mpr ⟨lw_p28, List.forall_mem_cons.mpr ⟨lw_p29, List.forall_mem_cons.mpr ⟨lw_p30, List.forall_mem_cons.mpr ⟨lw_p31, fun _ h => absurd h List.not_mem_nil⟩⟩⟩⟩⟩⟩⟩⟩⟩⟩⟩⟩⟩⟩⟩⟩
theorem lw_p32 : lw_okq (⟨"RindTalkModel", "heardBy", "(I)I"⟩, 33) := ⟨⟨by decide +kernel, by decide +kernel⟩, List.mem_of_getElem? (i := 596) (by decide +kernel), List.mem_of_getElem? (i := 794) (by decide +kernel), List.mem_of_getElem? (i := 795) (by decide +kernel)⟩
theorem lw_p33 : lw_okq (⟨"RindTalkModel", "isTurned", "(II)Z"⟩, 33) := ⟨⟨by decide +kernel, by decide +kernel⟩, List.mem_of_getElem? (i := 596) (by decide +kernel), List.mem_of_getElem? (i := 798) (by decide +kernel), List.mem_of_getElem? (i := 799) (by decide +kernel)⟩
theorem lw_p34 : lw_okq (⟨"RindTalkModel", "comes", "(II)I"⟩, 33) := ⟨⟨by decide +kernel, by decide +kernel⟩, List.mem_of_getElem? (i := 596) (by decide +kernel), List.mem_of_getElem? (i := 802) (by decide +kernel), List.mem_of_getElem? (i := 803) (by decide +kernel)⟩
theorem lw_p35 : lw_okq (⟨"RindTalkModel", "layerOf", "(II)I"⟩, 33) := ⟨⟨by decide +kernel, by decide +kernel⟩, List.mem_of_getElem? (i := 596) (by decide +kernel), List.mem_of_getElem? (i := 810) (by decide +kernel), List.mem_of_getElem? (i := 811) (by decide +kernel)⟩
theorem lw_p36 : lw_okq (⟨"RindTalkModel", "wordsOf", "(II)I"⟩, 33) := ⟨⟨by decide +kernel, by decide +kernel⟩, List.mem_of_getElem? (i := 596) (by decide +kernel), List.mem_of_getElem? (i := 828) (by decide +kernel), List.mem_of_getElem? (i := 829) (by decide +kernel)⟩
theorem lw_p37 : lw_okq (⟨"RindTalkModel", "findSpare", "(II)I"⟩, 33) := ⟨⟨by decide +kernel, by decide +kernel⟩, List.mem_of_getElem? (i := 596) (by decide +kernel), List.mem_of_getElem? (i := 836) (by decide +kernel), List.mem_of_getElem? (i := 837) (by decide +kernel)⟩
theorem lw_p38 : lw_okq (⟨"RindTalkModel", "rowsOf", "(I)I"⟩, 33) := ⟨⟨by decide +kernel, by decide +kernel⟩, List.mem_of_getElem? (i := 596) (by decide +kernel), List.mem_of_getElem? (i := 840) (by decide +kernel), List.mem_of_getElem? (i := 841) (by decide +kernel)⟩
theorem lw_p39 : lw_okq (⟨"RindTalkModel", "layRow", "(II)V"⟩, 33) := ⟨⟨by decide +kernel, by decide +kernel⟩, List.mem_of_getElem? (i := 596) (by decide +kernel), List.mem_of_getElem? (i := 844) (by decide +kernel), List.mem_of_getElem? (i := 845) (by decide +kernel)⟩
theorem lw_p40 : lw_okq (⟨"RindTalkModel", "sparedBy", "(II)I"⟩, 33) := ⟨⟨by decide +kernel, by decide +kernel⟩, List.mem_of_getElem? (i := 596) (by decide +kernel), List.mem_of_getElem? (i := 848) (by decide +kernel), List.mem_of_getElem? (i := 849) (by decide +kernel)⟩
theorem lw_p41 : lw_okq (⟨"RindTalkModel", "keepRow", "()V"⟩, 33) := ⟨⟨by decide +kernel, by decide +kernel⟩, List.mem_of_getElem? (i := 596) (by decide +kernel), List.mem_of_getElem? (i := 852) (by decide +kernel), List.mem_of_getElem? (i := 853) (by decide +kernel)⟩
theorem lw_p42 : lw_okq (⟨"RindTalkModel", "findShelves", "()I"⟩, 33) := ⟨⟨by decide +kernel, by decide +kernel⟩, List.mem_of_getElem? (i := 596) (by decide +kernel), List.mem_of_getElem? (i := 860) (by decide +kernel), List.mem_of_getElem? (i := 861) (by decide +kernel)⟩
theorem lw_p43 : lw_okq (⟨"RindTalkModel", "wordsHeard", "()I"⟩, 33) := ⟨⟨by decide +kernel, by decide +kernel⟩, List.mem_of_getElem? (i := 596) (by decide +kernel), List.mem_of_getElem? (i := 864) (by decide +kernel), List.mem_of_getElem? (i := 865) (by decide +kernel)⟩
theorem lw_p44 : lw_okq (⟨"RindTalkModel", "areSo", "()Z"⟩, 33) := ⟨⟨by decide +kernel, by decide +kernel⟩, List.mem_of_getElem? (i := 596) (by decide +kernel), List.mem_of_getElem? (i := 888) (by decide +kernel), List.mem_of_getElem? (i := 889) (by decide +kernel)⟩
theorem lw_p45 : lw_okq (⟨"RindTalkModel", "lost", "(I)J"⟩, 33) := ⟨⟨by decide +kernel, by decide +kernel⟩, List.mem_of_getElem? (i := 596) (by decide +kernel), List.mem_of_getElem? (i := 928) (by decide +kernel), List.mem_of_getElem? (i := 929) (by decide +kernel)⟩
theorem lw_p46 : lw_okq (⟨"RindTalkModel", "begins", "(I)V"⟩, 33) := ⟨⟨by decide +kernel, by decide +kernel⟩, List.mem_of_getElem? (i := 596) (by decide +kernel), List.mem_of_getElem? (i := 940) (by decide +kernel), List.mem_of_getElem? (i := 941) (by decide +kernel)⟩
def lw_privs_3 : List (MethodName × Nat) := [(⟨"RindTalkModel", "heardBy", "(I)I"⟩, 33), (⟨"RindTalkModel", "isTurned", "(II)Z"⟩, 33), (⟨"RindTalkModel", "comes", "(II)I"⟩, 33), (⟨"RindTalkModel", "layerOf", "(II)I"⟩, 33), (⟨"RindTalkModel", "wordsOf", "(II)I"⟩, 33), (⟨"RindTalkModel", "findSpare", "(II)I"⟩, 33), (⟨"RindTalkModel", "rowsOf", "(I)I"⟩, 33), (⟨"RindTalkModel", "layRow", "(II)V"⟩, 33), (⟨"RindTalkModel", "sparedBy", "(II)I"⟩, 33), (⟨"RindTalkModel", "keepRow", "()V"⟩, 33), (⟨"RindTalkModel", "findShelves", "()I"⟩, 33), (⟨"RindTalkModel", "wordsHeard", "()I"⟩, 33), (⟨"RindTalkModel", "areSo", "()Z"⟩, 33), (⟨"RindTalkModel", "lost", "(I)J"⟩, 33), (⟨"RindTalkModel", "begins", "(I)V"⟩, 33)]
theorem lw_r3 : ∀ q ∈ lw_privs_3, lw_okq q := List.forall_mem_cons.mpr ⟨lw_p32, List.forall_mem_cons.mpr ⟨lw_p33, List.forall_mem_cons.mpr ⟨lw_p34, List.forall_mem_cons.mpr ⟨lw_p35, List.forall_mem_cons.mpr ⟨lw_p36, List.forall_mem_cons.mpr ⟨lw_p37, List.forall_mem_cons.mpr ⟨lw_p38, List.forall_mem_cons.mpr ⟨lw_p39, List.forall_mem_cons.mpr ⟨lw_p40, List.forall_mem_cons.mpr ⟨lw_p41, List.forall_mem_cons.mpr ⟨lw_p42, List.forall_mem_cons.mpr ⟨lw_p43, List.forall_mem_cons.mpr ⟨lw_p44, List.forall_mem_cons.mpr ⟨lw_p45, List.forall_mem_cons.mpr ⟨lw_p46, fun _ h => absurd h List.not_mem_nil⟩⟩⟩⟩⟩⟩⟩⟩⟩⟩⟩⟩⟩⟩⟩
def lw_privs : List (MethodName × Nat) := lw_privs_1 ++ (lw_privs_2 ++ (lw_privs_3))
def lw_tbl : List Cond := k2_sels lw_privs ++ tables_1
theorem lw_privs_ok : ∀ q ∈ lw_privs, lw_okq q := by
  show ∀ q ∈ lw_privs_1 ++ (lw_privs_2 ++ (lw_privs_3)), lw_okq q
  exact List.forall_mem_append.mpr ⟨lw_r1, List.forall_mem_append.mpr ⟨lw_r2, lw_r3⟩⟩

theorem goodIn_r {big : List Cond} (ws : List Cond) (ps : List Nat) (hp : ws = ps.filterMap (fun i => big[i]?)) (h : ws.all goodWord = true) : GoodIn big ws := by
  intro w hw
  have h1 := List.all_eq_true.mp h w hw
  rw [hp] at hw
  obtain ⟨i, -, hi⟩ := List.mem_filterMap.mp hw
  have hm : w ∈ big := by first | exact List.mem_of_getElem? hi | exact List.getElem?_mem hi
  exact ⟨hm, good_of_word h1⟩
theorem goodIn_app {big a b : List Cond} (ha : GoodIn big a) (hb : GoodIn big b) : GoodIn big (a ++ b) := fun w h => (List.mem_append.mp h).elim (ha w) (hb w)
theorem goodIn_ca {big a b : List Cond} {c : Cond} (ha : GoodIn big (c :: a)) (hb : GoodIn big b) : GoodIn big (c :: (a ++ b)) := fun w h => (List.mem_cons.mp h).elim (fun e => ha w (List.mem_cons.mpr (Or.inl e))) (fun h => (List.mem_append.mp h).elim (fun h => ha w (List.mem_cons.mpr (Or.inr h))) (hb w))
theorem goodIn_sub {big ws : List Cond} (hm : ∀ w ∈ ws, w ∈ big) (h : ws.all goodWord = true) : GoodIn big ws := fun w hw => ⟨hm w hw, good_of_word (List.all_eq_true.mp h w hw)⟩
def RX0 : String := "RindTalk$Dairy"
def TX0 : u_T := fun k => match k with
  | 0 => ("RindTalk$Dairy", "cellars", "I", false)
  | 1 => ("RindTalk$Dairy", "cheeses", "I", false)
  | 2 => ("RindTalk$Dairy", "talks", "I", false)
  | 3 => ("RindTalk$Dairy", "kind", "[I", true)
  | 4 => ("RindTalk$Dairy", "lies", "[I", true)
  | 5 => ("RindTalk$Dairy", "thick", "[I", true)
  | 6 => ("RindTalk$Dairy", "turned", "[I", true)
  | 7 => ("RindTalk$Dairy", "saidIn", "[I", true)
  | 8 => ("RindTalk$Dairy", "loud", "[I", true)
  | 9 => ("RindTalk$Dairy", "word", "[I", true)
  | 10 => ("RindTalk$Dairy", "moves", "LRindTalk$Slips;", true)
  | 11 => ("RindTalk$Dairy", "readings", "LRindTalk$Slips;", true)
  | 12 => ("RindTalk$Dairy", "carried", "[[I", true)
  | _ => ("RindTalk$Dairy", "heardTalks", "[I", true)
def tyX0 : Nat → FieldType := fun k => match k with
  | 0 => .int
  | 1 => .int
  | 2 => .int
  | 3 => .array .int
  | 4 => .array .int
  | 5 => .array .int
  | 6 => .array .int
  | 7 => .array .int
  | 8 => .array .int
  | 9 => .array .int
  | 10 => .object "RindTalk$Slips"
  | 11 => .object "RindTalk$Slips"
  | 12 => .array (.array .int)
  | _ => .array .int
abbrev wsX00 : List Cond := u_ws RX0 TX0 14
theorem nmX0 : ∀ a, a < 14 → ∀ b, b < 14 → a ≠ b → (TX0 a).2.1 ≠ (TX0 b).2.1 := by decide +kernel
theorem tyX0_ok : ∀ k, k < 14 → parseFieldDescriptor (TX0 k).2.2.1 = some (tyX0 k) := by decide +kernel
abbrev cX0_init : ByteArray := prog_2_method_1_code
def yX0_init : MethodName := ⟨RX0, "<init>", "()V"⟩
abbrev cX0_takeText : ByteArray := prog_2_method_2_code
def yX0_takeText : MethodName := ⟨RX0, "takeText", "([III)I"⟩
abbrev cX0_goesOn : ByteArray := prog_2_method_3_code
def yX0_goesOn : MethodName := ⟨RX0, "goesOn", "(II)Z"⟩
abbrev cX0_begins : ByteArray := prog_2_method_4_code
def yX0_begins : MethodName := ⟨RX0, "begins", "(I)Z"⟩
abbrev cX0_cheeseGoesOn : ByteArray := prog_2_method_5_code
def yX0_cheeseGoesOn : MethodName := ⟨RX0, "cheeseGoesOn", "(II)Z"⟩
abbrev cX0_talkGoesOn : ByteArray := prog_2_method_6_code
def yX0_talkGoesOn : MethodName := ⟨RX0, "talkGoesOn", "(II)Z"⟩
abbrev cX0_isDigit : ByteArray := prog_2_method_7_code
def yX0_isDigit : MethodName := ⟨RX0, "isDigit", "(III)Z"⟩
abbrev cX0_kindOf : ByteArray := prog_2_method_8_code
def yX0_kindOf : MethodName := ⟨RX0, "kindOf", "(I)I"⟩
abbrev cX0_carry : ByteArray := prog_2_method_9_code
def yX0_carry : MethodName := ⟨RX0, "carry", "()V"⟩
abbrev cX0_carriedTo : ByteArray := prog_2_method_10_code
def yX0_carriedTo : MethodName := ⟨RX0, "carriedTo", "(II)I"⟩
abbrev cX0_cellarOn : ByteArray := prog_2_method_11_code
def yX0_cellarOn : MethodName := ⟨RX0, "cellarOn", "(II)I"⟩
abbrev cX0_catches : ByteArray := prog_2_method_12_code
def yX0_catches : MethodName := ⟨RX0, "catches", "(IIII)Z"⟩
abbrev cX0_talksTo : ByteArray := prog_2_method_13_code
def yX0_talksTo : MethodName := ⟨RX0, "talksTo", "(II)I"⟩
abbrev cX0_wordsTo : ByteArray := prog_2_method_14_code
def yX0_wordsTo : MethodName := ⟨RX0, "wordsTo", "(II)I"⟩
abbrev cX0_wordsDown : ByteArray := prog_2_method_15_code
def yX0_wordsDown : MethodName := ⟨RX0, "wordsDown", "(II)I"⟩
abbrev cX0_talkAt : ByteArray := prog_2_method_16_code
def yX0_talkAt : MethodName := ⟨RX0, "talkAt", "(II)I"⟩
abbrev cX0_depthOf : ByteArray := prog_2_method_17_code
def yX0_depthOf : MethodName := ⟨RX0, "depthOf", "(II)I"⟩
abbrev cX0_readingsAreSo : ByteArray := prog_2_method_18_code
def yX0_readingsAreSo : MethodName := ⟨RX0, "readingsAreSo", "()Z"⟩
def RX1 : String := "RindTalk$Sheet"
def TX1 : u_T := fun k => match k with
  | 0 => ("RindTalk$Sheet", "cells", "[I", true)
  | 1 => ("RindTalk$Sheet", "lane", "I", false)
  | _ => ("RindTalk$Sheet", "length", "I", false)
def tyX1 : Nat → FieldType := fun k => match k with
  | 0 => .array .int
  | 1 => .int
  | _ => .int
abbrev wsX10 : List Cond := u_ws RX1 TX1 3
theorem nmX1 : ∀ a, a < 3 → ∀ b, b < 3 → a ≠ b → (TX1 a).2.1 ≠ (TX1 b).2.1 := by decide +kernel
theorem tyX1_ok : ∀ k, k < 3 → parseFieldDescriptor (TX1 k).2.2.1 = some (tyX1 k) := by decide +kernel
abbrev cX1_init : ByteArray := prog_3_method_1_code
def yX1_init : MethodName := ⟨RX1, "<init>", "()V"⟩
abbrev cX1_begin : ByteArray := prog_3_method_2_code
def yX1_begin : MethodName := ⟨RX1, "begin", "(II)V"⟩
abbrev cX1_empty : ByteArray := prog_3_method_3_code
def yX1_empty : MethodName := ⟨RX1, "empty", "()Z"⟩
abbrev cX1_hasNothing : ByteArray := prog_3_method_4_code
def yX1_hasNothing : MethodName := ⟨RX1, "hasNothing", "()Z"⟩
abbrev cX1_hasCells : ByteArray := prog_3_method_5_code
def yX1_hasCells : MethodName := ⟨RX1, "hasCells", "(II)Z"⟩
abbrev cX1_faultAs : ByteArray := prog_3_method_6_code
def yX1_faultAs : MethodName := ⟨RX1, "faultAs", "(I)I"⟩
abbrev cX1_cutToLane : ByteArray := prog_3_method_7_code
def yX1_cutToLane : MethodName := ⟨RX1, "cutToLane", "(I)I"⟩
def RX2 : String := "RindTalk$Shelving"
def TX2 : u_T := fun k => match k with
  | 0 => ("RindTalk$Shelving", "best", "[I", true)
  | 1 => ("RindTalk$Shelving", "most", "I", false)
  | 2 => ("RindTalk$Shelving", "hears", "[[I", true)
  | 3 => ("RindTalk$Shelving", "row", "[I", true)
  | 4 => ("RindTalk$Shelving", "cheeses", "I", false)
  | _ => ("RindTalk$Shelving", "cellars", "I", false)
def tyX2 : Nat → FieldType := fun k => match k with
  | 0 => .array .int
  | 1 => .int
  | 2 => .array (.array .int)
  | 3 => .array .int
  | 4 => .int
  | _ => .int
abbrev wsX20 : List Cond := u_ws RX2 TX2 6
theorem nmX2 : ∀ a, a < 6 → ∀ b, b < 6 → a ≠ b → (TX2 a).2.1 ≠ (TX2 b).2.1 := by decide +kernel
theorem tyX2_ok : ∀ k, k < 6 → parseFieldDescriptor (TX2 k).2.2.1 = some (tyX2 k) := by decide +kernel
abbrev cX2_init : ByteArray := prog_4_method_1_code
def yX2_init : MethodName := ⟨RX2, "<init>", "()V"⟩
abbrev cX2_find : ByteArray := prog_4_method_2_code
def yX2_find : MethodName := ⟨RX2, "find", "(LRindTalk$Dairy;)V"⟩
abbrev cX2_shelveFrom : ByteArray := prog_4_method_3_code
def yX2_shelveFrom : MethodName := ⟨RX2, "shelveFrom", "(II)V"⟩
def RX3 : String := "RindTalk$Slips"
def TX3 : u_T := fun k => match k with
  | 0 => ("RindTalk$Slips", "cheese", "[I", true)
  | 1 => ("RindTalk$Slips", "at", "[I", true)
  | 2 => ("RindTalk$Slips", "value", "[I", true)
  | _ => ("RindTalk$Slips", "count", "I", false)
def tyX3 : Nat → FieldType := fun k => match k with
  | 0 => .array .int
  | 1 => .array .int
  | 2 => .array .int
  | _ => .int
abbrev wsX30 : List Cond := u_ws RX3 TX3 4
theorem nmX3 : ∀ a, a < 4 → ∀ b, b < 4 → a ≠ b → (TX3 a).2.1 ≠ (TX3 b).2.1 := by decide +kernel
theorem tyX3_ok : ∀ k, k < 4 → parseFieldDescriptor (TX3 k).2.2.1 = some (tyX3 k) := by decide +kernel
abbrev cX3_init : ByteArray := prog_5_method_1_code
def yX3_init : MethodName := ⟨RX3, "<init>", "()V"⟩
abbrev cX3_add : ByteArray := prog_5_method_2_code
def yX3_add : MethodName := ⟨RX3, "add", "(III)I"⟩
abbrev cX3_takeBack : ByteArray := prog_5_method_3_code
def yX3_takeBack : MethodName := ⟨RX3, "takeBack", "(I)I"⟩
def RX4 : String := "RindTalk$Sparing"
def TX4 : u_T := fun k => match k with
  | 0 => ("RindTalk$Sparing", "best", "[I", true)
  | 1 => ("RindTalk$Sparing", "fewest", "I", false)
  | 2 => ("RindTalk$Sparing", "had", "[[I", true)
  | 3 => ("RindTalk$Sparing", "deepest", "[I", true)
  | 4 => ("RindTalk$Sparing", "within", "[I", true)
  | 5 => ("RindTalk$Sparing", "row", "[I", true)
  | 6 => ("RindTalk$Sparing", "cheeses", "I", false)
  | _ => ("RindTalk$Sparing", "wanted", "I", false)
def tyX4 : Nat → FieldType := fun k => match k with
  | 0 => .array .int
  | 1 => .int
  | 2 => .array (.array .int)
  | 3 => .array .int
  | 4 => .array .int
  | 5 => .array .int
  | 6 => .int
  | _ => .int
abbrev wsX40 : List Cond := u_ws RX4 TX4 8
theorem nmX4 : ∀ a, a < 8 → ∀ b, b < 8 → a ≠ b → (TX4 a).2.1 ≠ (TX4 b).2.1 := by decide +kernel
theorem tyX4_ok : ∀ k, k < 8 → parseFieldDescriptor (TX4 k).2.2.1 = some (tyX4 k) := by decide +kernel
abbrev cX4_init : ByteArray := prog_6_method_1_code
def yX4_init : MethodName := ⟨RX4, "<init>", "()V"⟩
abbrev cX4_find : ByteArray := prog_6_method_2_code
def yX4_find : MethodName := ⟨RX4, "find", "(LRindTalk$Dairy;II)V"⟩
abbrev cX4_measure : ByteArray := prog_6_method_3_code
def yX4_measure : MethodName := ⟨RX4, "measure", "(LRindTalk$Dairy;II)V"⟩
abbrev cX4_cutFrom : ByteArray := prog_6_method_4_code
def yX4_cutFrom : MethodName := ⟨RX4, "cutFrom", "(III)V"⟩
def RX5 : String := "RindTalk$Whispers"
def TX5 : u_T := fun k => match k with
  | 0 => ("RindTalk$Whispers", "ways", "[I", false)
  | 1 => ("RindTalk$Whispers", "next", "[I", false)
  | 2 => ("RindTalk$Whispers", "upper", "I", false)
  | _ => ("RindTalk$Whispers", "lower", "I", false)
def tyX5 : Nat → FieldType := fun k => match k with
  | 0 => .array .int
  | 1 => .array .int
  | 2 => .int
  | _ => .int
abbrev wsX50 : List Cond := u_ws RX5 TX5 4
theorem nmX5 : ∀ a, a < 4 → ∀ b, b < 4 → a ≠ b → (TX5 a).2.1 ≠ (TX5 b).2.1 := by decide +kernel
theorem tyX5_ok : ∀ k, k < 4 → parseFieldDescriptor (TX5 k).2.2.1 = some (tyX5 k) := by decide +kernel
abbrev cX5_init : ByteArray := prog_7_method_1_code
def yX5_init : MethodName := ⟨RX5, "<init>", "()V"⟩
abbrev cX5_weigh : ByteArray := prog_7_method_2_code
def yX5_weigh : MethodName := ⟨RX5, "weigh", "(LRindTalk$Dairy;II)V"⟩
abbrev cX5_spread : ByteArray := prog_7_method_3_code
def yX5_spread : MethodName := ⟨RX5, "spread", "(LRindTalk$Dairy;IIII)V"⟩
abbrev cX5_reduce : ByteArray := prog_7_method_4_code
def yX5_reduce : MethodName := ⟨RX5, "reduce", "()V"⟩
def RX6 : String := "RindTalk"
def TX6 : u_T := fun k => match k with
  | 0 => ("RindTalk", "sheets", "[LRindTalk$Sheet;", true)
  | 1 => ("RindTalk", "sparing", "LRindTalk$Sparing;", true)
  | 2 => ("RindTalk", "shelving", "LRindTalk$Shelving;", true)
  | 3 => ("RindTalk", "whispers", "LRindTalk$Whispers;", true)
  | 4 => ("RindTalk", "taken", "LRindTalk$Dairy;", false)
  | 5 => ("RindTalk", "draft", "LRindTalk$Dairy;", false)
  | 6 => ("RindTalk", "traced", "I", false)
  | _ => ("RindTalk", "lastFault", "I", false)
def tyX6 : Nat → FieldType := fun k => match k with
  | 0 => .array (.object "RindTalk$Sheet")
  | 1 => .object "RindTalk$Sparing"
  | 2 => .object "RindTalk$Shelving"
  | 3 => .object "RindTalk$Whispers"
  | 4 => .object "RindTalk$Dairy"
  | 5 => .object "RindTalk$Dairy"
  | 6 => .int
  | _ => .int
abbrev wsX60 : List Cond := u_ws RX6 TX6 8
theorem nmX6 : ∀ a, a < 8 → ∀ b, b < 8 → a ≠ b → (TX6 a).2.1 ≠ (TX6 b).2.1 := by decide +kernel
theorem tyX6_ok : ∀ k, k < 8 → parseFieldDescriptor (TX6 k).2.2.1 = some (tyX6 k) := by decide +kernel
abbrev cX6_init : ByteArray := prog_1_method_1_code
def yX6_init : MethodName := ⟨RX6, "<init>", "()V"⟩
abbrev cX6_dairy : ByteArray := prog_1_method_2_code
def yX6_dairy : MethodName := ⟨RX6, "dairy", "(IIII)I"⟩
abbrev cX6_ofCheese : ByteArray := prog_1_method_3_code
def yX6_ofCheese : MethodName := ⟨RX6, "ofCheese", "(II)I"⟩
abbrev cX6_ofTalk : ByteArray := prog_1_method_4_code
def yX6_ofTalk : MethodName := ⟨RX6, "ofTalk", "(II)I"⟩
abbrev cX6_move : ByteArray := prog_1_method_5_code
def yX6_move : MethodName := ⟨RX6, "move", "(III)I"⟩
abbrev cX6_undo : ByteArray := prog_1_method_6_code
def yX6_undo : MethodName := ⟨RX6, "undo", "(I)I"⟩
abbrev cX6_wall : ByteArray := prog_1_method_7_code
def yX6_wall : MethodName := ⟨RX6, "wall", "(II)I"⟩
abbrev cX6_where : ByteArray := prog_1_method_8_code
def yX6_where : MethodName := ⟨RX6, "where", "(II)I"⟩
abbrev cX6_heard : ByteArray := prog_1_method_9_code
def yX6_heard : MethodName := ⟨RX6, "heard", "(I)I"⟩
abbrev cX6_layer : ByteArray := prog_1_method_10_code
def yX6_layer : MethodName := ⟨RX6, "layer", "(II)I"⟩
abbrev cX6_deep : ByteArray := prog_1_method_11_code
def yX6_deep : MethodName := ⟨RX6, "deep", "(II)I"⟩
abbrev cX6_cuts : ByteArray := prog_1_method_12_code
def yX6_cuts : MethodName := ⟨RX6, "cuts", "(IIIII)I"⟩
abbrev cX6_cutPairs : ByteArray := prog_1_method_13_code
def yX6_cutPairs : MethodName := ⟨RX6, "cutPairs", "([IIII)I"⟩
abbrev cX6_spare : ByteArray := prog_1_method_14_code
def yX6_spare : MethodName := ⟨RX6, "spare", "(III)I"⟩
abbrev cX6_shelve : ByteArray := prog_1_method_15_code
def yX6_shelve : MethodName := ⟨RX6, "shelve", "(I)I"⟩
abbrev cX6_common : ByteArray := prog_1_method_16_code
def yX6_common : MethodName := ⟨RX6, "common", "()I"⟩
abbrev cX6_alone : ByteArray := prog_1_method_17_code
def yX6_alone : MethodName := ⟨RX6, "alone", "(I)I"⟩
abbrev cX6_reading : ByteArray := prog_1_method_18_code
def yX6_reading : MethodName := ⟨RX6, "reading", "(III)I"⟩
abbrev cX6_back : ByteArray := prog_1_method_19_code
def yX6_back : MethodName := ⟨RX6, "back", "(I)I"⟩
abbrev cX6_louds : ByteArray := prog_1_method_20_code
def yX6_louds : MethodName := ⟨RX6, "louds", "(I)I"⟩
abbrev cX6_words : ByteArray := prog_1_method_21_code
def yX6_words : MethodName := ⟨RX6, "words", "(I)I"⟩
abbrev cX6_kinds : ByteArray := prog_1_method_22_code
def yX6_kinds : MethodName := ⟨RX6, "kinds", "(I)I"⟩
abbrev cX6_lay : ByteArray := prog_1_method_23_code
def yX6_lay : MethodName := ⟨RX6, "lay", "(I)I"⟩
abbrev cX6_fitting : ByteArray := prog_1_method_24_code
def yX6_fitting : MethodName := ⟨RX6, "fitting", "([IIII)I"⟩
abbrev cX6_odds : ByteArray := prog_1_method_25_code
def yX6_odds : MethodName := ⟨RX6, "odds", "(III)J"⟩
abbrev cX6_sheet : ByteArray := prog_1_method_26_code
def yX6_sheet : MethodName := ⟨RX6, "sheet", "(III)I"⟩
abbrev cX6_lose : ByteArray := prog_1_method_27_code
def yX6_lose : MethodName := ⟨RX6, "lose", "(I)I"⟩
abbrev cX6_put : ByteArray := prog_1_method_28_code
def yX6_put : MethodName := ⟨RX6, "put", "(III)I"⟩
abbrev cX6_cell : ByteArray := prog_1_method_29_code
def yX6_cell : MethodName := ⟨RX6, "cell", "(III)J"⟩
abbrev cX6_copy : ByteArray := prog_1_method_30_code
def yX6_copy : MethodName := ⟨RX6, "copy", "(IIIII)I"⟩
abbrev cX6_tell : ByteArray := prog_1_method_31_code
def yX6_tell : MethodName := ⟨RX6, "tell", "(I)I"⟩
abbrev cX6_plainTells : ByteArray := prog_1_method_32_code
def yX6_plainTells : MethodName := ⟨RX6, "plainTells", "(I)I"⟩
abbrev cX6_waxedTells : ByteArray := prog_1_method_33_code
def yX6_waxedTells : MethodName := ⟨RX6, "waxedTells", "(I)I"⟩
abbrev cX6_mitedTells : ByteArray := prog_1_method_34_code
def yX6_mitedTells : MethodName := ⟨RX6, "mitedTells", "(I)I"⟩
abbrev cX6_tap : ByteArray := prog_1_method_35_code
def yX6_tap : MethodName := ⟨RX6, "tap", "(I)I"⟩
abbrev cX6_as : ByteArray := prog_1_method_36_code
def yX6_as : MethodName := ⟨RX6, "as", "(II)I"⟩
abbrev cX6_trace : ByteArray := prog_1_method_37_code
def yX6_trace : MethodName := ⟨RX6, "trace", "()I"⟩
abbrev cX6_fault : ByteArray := prog_1_method_38_code
def yX6_fault : MethodName := ⟨RX6, "fault", "()I"⟩
abbrev cX6_many : ByteArray := prog_1_method_39_code
def yX6_many : MethodName := ⟨RX6, "many", "(I)I"⟩
abbrev cX6_leave : ByteArray := prog_1_method_40_code
def yX6_leave : MethodName := ⟨RX6, "leave", "(I)V"⟩
abbrev cX6_faulty : ByteArray := prog_1_method_41_code
def yX6_faulty : MethodName := ⟨RX6, "faulty", "(I)I"⟩
abbrev cX6_hasNoDairy : ByteArray := prog_1_method_42_code
def yX6_hasNoDairy : MethodName := ⟨RX6, "hasNoDairy", "()Z"⟩
abbrev cX6_isCheese : ByteArray := prog_1_method_43_code
def yX6_isCheese : MethodName := ⟨RX6, "isCheese", "(I)Z"⟩
abbrev cX6_isTalk : ByteArray := prog_1_method_44_code
def yX6_isTalk : MethodName := ⟨RX6, "isTalk", "(I)Z"⟩
abbrev cX6_isSheet : ByteArray := prog_1_method_45_code
def yX6_isSheet : MethodName := ⟨RX6, "isSheet", "(I)Z"⟩
abbrev cX6_isLane : ByteArray := prog_1_method_46_code
def yX6_isLane : MethodName := ⟨RX6, "isLane", "(I)Z"⟩
abbrev cX6_isDay : ByteArray := prog_1_method_47_code
def yX6_isDay : MethodName := ⟨RX6, "isDay", "(I)Z"⟩
abbrev cX6_isWord : ByteArray := prog_1_method_48_code
def yX6_isWord : MethodName := ⟨RX6, "isWord", "(I)Z"⟩
abbrev cX6_isWordSet : ByteArray := prog_1_method_49_code
def yX6_isWordSet : MethodName := ⟨RX6, "isWordSet", "(I)Z"⟩
def RX7 : String := "RindTalkModel"
def TX7 : u_T := fun k => match k with
  | 0 => ("RindTalkModel", "fault", "I", false)
  | 1 => ("RindTalkModel", "trace", "I", false)
  | 2 => ("RindTalkModel", "sorts", "[I", true)
  | 3 => ("RindTalkModel", "sheetLong", "[I", true)
  | 4 => ("RindTalkModel", "cells", "[I", true)
  | 5 => ("RindTalkModel", "cellars", "I", false)
  | 6 => ("RindTalkModel", "cheeses", "I", false)
  | 7 => ("RindTalkModel", "talks", "I", false)
  | 8 => ("RindTalkModel", "kind", "[I", true)
  | 9 => ("RindTalkModel", "first", "[I", true)
  | 10 => ("RindTalkModel", "thick", "[I", true)
  | 11 => ("RindTalkModel", "turnedFrom", "[I", true)
  | 12 => ("RindTalkModel", "talkIn", "[I", true)
  | 13 => ("RindTalkModel", "loud", "[I", true)
  | 14 => ("RindTalkModel", "wordOf", "[I", true)
  | 15 => ("RindTalkModel", "moves", "I", false)
  | 16 => ("RindTalkModel", "moveOf", "[I", true)
  | 17 => ("RindTalkModel", "moveFrom", "[I", true)
  | 18 => ("RindTalkModel", "moveTo", "[I", true)
  | 19 => ("RindTalkModel", "whispered", "I", false)
  | 20 => ("RindTalkModel", "at", "I", false)
  | 21 => ("RindTalkModel", "readCellars", "I", false)
  | 22 => ("RindTalkModel", "readCheeses", "I", false)
  | 23 => ("RindTalkModel", "readTalks", "I", false)
  | 24 => ("RindTalkModel", "readCheese", "[I", true)
  | 25 => ("RindTalkModel", "readTalk", "[I", true)
  | 26 => ("RindTalkModel", "row", "[I", true)
  | 27 => ("RindTalkModel", "found", "[I", true)
  | 28 => ("RindTalkModel", "kept", "[I", true)
  | 29 => ("RindTalkModel", "readings", "I", false)
  | 30 => ("RindTalkModel", "readCheeseOf", "[I", true)
  | 31 => ("RindTalkModel", "readLayer", "[I", true)
  | _ => ("RindTalkModel", "readWord", "[I", true)
def tyX7 : Nat → FieldType := fun k => match k with
  | 0 => .int
  | 1 => .int
  | 2 => .array .int
  | 3 => .array .int
  | 4 => .array .int
  | 5 => .int
  | 6 => .int
  | 7 => .int
  | 8 => .array .int
  | 9 => .array .int
  | 10 => .array .int
  | 11 => .array .int
  | 12 => .array .int
  | 13 => .array .int
  | 14 => .array .int
  | 15 => .int
  | 16 => .array .int
  | 17 => .array .int
  | 18 => .array .int
  | 19 => .int
  | 20 => .int
  | 21 => .int
  | 22 => .int
  | 23 => .int
  | 24 => .array .int
  | 25 => .array .int
  | 26 => .array .int
  | 27 => .array .int
  | 28 => .array .int
  | 29 => .int
  | 30 => .array .int
  | 31 => .array .int
  | _ => .array .int
abbrev wsX70 : List Cond := u_ws RX7 TX7 33
theorem nmX7 : ∀ a, a < 33 → ∀ b, b < 33 → a ≠ b → (TX7 a).2.1 ≠ (TX7 b).2.1 := by decide +kernel
theorem tyX7_ok : ∀ k, k < 33 → parseFieldDescriptor (TX7 k).2.2.1 = some (tyX7 k) := by decide +kernel
abbrev cX7_init : ByteArray := prog_9_method_1_code
def yX7_init : MethodName := ⟨RX7, "<init>", "()V"⟩
abbrev cX7_fails : ByteArray := prog_9_method_3_code
def yX7_fails : MethodName := ⟨RX7, "fails", "(I)I"⟩
abbrev cX7_lost : ByteArray := prog_9_method_4_code
def yX7_lost : MethodName := ⟨RX7, "lost", "(I)J"⟩
abbrev cX7_within : ByteArray := prog_9_method_5_code
def yX7_within : MethodName := ⟨RX7, "within", "(III)Z"⟩
abbrev cX7_isSheet : ByteArray := prog_9_method_6_code
def yX7_isSheet : MethodName := ⟨RX7, "isSheet", "(I)Z"⟩
abbrev cX7_isSort : ByteArray := prog_9_method_7_code
def yX7_isSort : MethodName := ⟨RX7, "isSort", "(I)Z"⟩
abbrev cX7_against : ByteArray := prog_9_method_8_code
def yX7_against : MethodName := ⟨RX7, "against", "(IIII)I"⟩
abbrev cX7_isCheese : ByteArray := prog_9_method_9_code
def yX7_isCheese : MethodName := ⟨RX7, "isCheese", "(I)Z"⟩
abbrev cX7_isCellar : ByteArray := prog_9_method_10_code
def yX7_isCellar : MethodName := ⟨RX7, "isCellar", "(I)Z"⟩
abbrev cX7_isTalk : ByteArray := prog_9_method_11_code
def yX7_isTalk : MethodName := ⟨RX7, "isTalk", "(I)Z"⟩
abbrev cX7_isWord : ByteArray := prog_9_method_12_code
def yX7_isWord : MethodName := ⟨RX7, "isWord", "(I)Z"⟩
abbrev cX7_isDay : ByteArray := prog_9_method_13_code
def yX7_isDay : MethodName := ⟨RX7, "isDay", "(I)Z"⟩
abbrev cX7_digit : ByteArray := prog_9_method_14_code
def yX7_digit : MethodName := ⟨RX7, "digit", "(III)I"⟩
abbrev cX7_isSign : ByteArray := prog_9_method_15_code
def yX7_isSign : MethodName := ⟨RX7, "isSign", "(II)Z"⟩
abbrev cX7_dairy : ByteArray := prog_9_method_16_code
def yX7_dairy : MethodName := ⟨RX7, "dairy", "(IIII)I"⟩
abbrev cX7_takeDairy : ByteArray := prog_9_method_17_code
def yX7_takeDairy : MethodName := ⟨RX7, "takeDairy", "()V"⟩
abbrev cX7_readDairy : ByteArray := prog_9_method_18_code
def yX7_readDairy : MethodName := ⟨RX7, "readDairy", "(I)Z"⟩
abbrev cX7_readOneCheese : ByteArray := prog_9_method_19_code
def yX7_readOneCheese : MethodName := ⟨RX7, "readOneCheese", "(I)Z"⟩
abbrev cX7_readOneTalk : ByteArray := prog_9_method_20_code
def yX7_readOneTalk : MethodName := ⟨RX7, "readOneTalk", "(I)Z"⟩
abbrev cX7_ofCheese : ByteArray := prog_9_method_21_code
def yX7_ofCheese : MethodName := ⟨RX7, "ofCheese", "(II)I"⟩
abbrev cX7_ofTalk : ByteArray := prog_9_method_22_code
def yX7_ofTalk : MethodName := ⟨RX7, "ofTalk", "(II)I"⟩
abbrev cX7_move : ByteArray := prog_9_method_23_code
def yX7_move : MethodName := ⟨RX7, "move", "(III)I"⟩
abbrev cX7_undo : ByteArray := prog_9_method_24_code
def yX7_undo : MethodName := ⟨RX7, "undo", "(I)I"⟩
abbrev cX7_wall : ByteArray := prog_9_method_25_code
def yX7_wall : MethodName := ⟨RX7, "wall", "(II)I"⟩
abbrev cX7_whereOf : ByteArray := prog_9_method_26_code
def yX7_whereOf : MethodName := ⟨RX7, "whereOf", "(II)I"⟩
abbrev cX7_where : ByteArray := prog_9_method_27_code
def yX7_where : MethodName := ⟨RX7, "where", "(II)I"⟩
abbrev cX7_comes : ByteArray := prog_9_method_28_code
def yX7_comes : MethodName := ⟨RX7, "comes", "(II)I"⟩
abbrev cX7_isTurned : ByteArray := prog_9_method_29_code
def yX7_isTurned : MethodName := ⟨RX7, "isTurned", "(II)Z"⟩
abbrev cX7_heardBy : ByteArray := prog_9_method_30_code
def yX7_heardBy : MethodName := ⟨RX7, "heardBy", "(I)I"⟩
abbrev cX7_heard : ByteArray := prog_9_method_31_code
def yX7_heard : MethodName := ⟨RX7, "heard", "(I)I"⟩
abbrev cX7_size : ByteArray := prog_9_method_32_code
def yX7_size : MethodName := ⟨RX7, "size", "(I)I"⟩
abbrev cX7_layerOf : ByteArray := prog_9_method_33_code
def yX7_layerOf : MethodName := ⟨RX7, "layerOf", "(II)I"⟩
abbrev cX7_layer : ByteArray := prog_9_method_34_code
def yX7_layer : MethodName := ⟨RX7, "layer", "(II)I"⟩
abbrev cX7_deep : ByteArray := prog_9_method_35_code
def yX7_deep : MethodName := ⟨RX7, "deep", "(II)I"⟩
abbrev cX7_wordsOf : ByteArray := prog_9_method_36_code
def yX7_wordsOf : MethodName := ⟨RX7, "wordsOf", "(II)I"⟩
abbrev cX7_cuts : ByteArray := prog_9_method_37_code
def yX7_cuts : MethodName := ⟨RX7, "cuts", "(IIIII)I"⟩
abbrev cX7_layRow : ByteArray := prog_9_method_38_code
def yX7_layRow : MethodName := ⟨RX7, "layRow", "(II)V"⟩
abbrev cX7_rowsOf : ByteArray := prog_9_method_39_code
def yX7_rowsOf : MethodName := ⟨RX7, "rowsOf", "(I)I"⟩
abbrev cX7_keepRow : ByteArray := prog_9_method_40_code
def yX7_keepRow : MethodName := ⟨RX7, "keepRow", "()V"⟩
abbrev cX7_sparedBy : ByteArray := prog_9_method_41_code
def yX7_sparedBy : MethodName := ⟨RX7, "sparedBy", "(II)I"⟩
abbrev cX7_findSpare : ByteArray := prog_9_method_42_code
def yX7_findSpare : MethodName := ⟨RX7, "findSpare", "(II)I"⟩
abbrev cX7_spare : ByteArray := prog_9_method_43_code
def yX7_spare : MethodName := ⟨RX7, "spare", "(III)I"⟩
abbrev cX7_wordsHeard : ByteArray := prog_9_method_44_code
def yX7_wordsHeard : MethodName := ⟨RX7, "wordsHeard", "()I"⟩
abbrev cX7_findShelves : ByteArray := prog_9_method_45_code
def yX7_findShelves : MethodName := ⟨RX7, "findShelves", "()I"⟩
abbrev cX7_shelve : ByteArray := prog_9_method_46_code
def yX7_shelve : MethodName := ⟨RX7, "shelve", "(I)I"⟩
abbrev cX7_common : ByteArray := prog_9_method_47_code
def yX7_common : MethodName := ⟨RX7, "common", "()I"⟩
abbrev cX7_alone : ByteArray := prog_9_method_48_code
def yX7_alone : MethodName := ⟨RX7, "alone", "(I)I"⟩
abbrev cX7_reading : ByteArray := prog_9_method_49_code
def yX7_reading : MethodName := ⟨RX7, "reading", "(III)I"⟩
abbrev cX7_back : ByteArray := prog_9_method_50_code
def yX7_back : MethodName := ⟨RX7, "back", "(I)I"⟩
abbrev cX7_areSo : ByteArray := prog_9_method_51_code
def yX7_areSo : MethodName := ⟨RX7, "areSo", "()Z"⟩
abbrev cX7_louds : ByteArray := prog_9_method_52_code
def yX7_louds : MethodName := ⟨RX7, "louds", "(I)I"⟩
abbrev cX7_words : ByteArray := prog_9_method_53_code
def yX7_words : MethodName := ⟨RX7, "words", "(I)I"⟩
abbrev cX7_kinds : ByteArray := prog_9_method_54_code
def yX7_kinds : MethodName := ⟨RX7, "kinds", "(I)I"⟩
abbrev cX7_lay : ByteArray := prog_9_method_55_code
def yX7_lay : MethodName := ⟨RX7, "lay", "(I)I"⟩
abbrev cX7_inLeastTerms : ByteArray := prog_9_method_56_code
def yX7_inLeastTerms : MethodName := ⟨RX7, "inLeastTerms", "(JJI)J"⟩
abbrev cX7_odds : ByteArray := prog_9_method_57_code
def yX7_odds : MethodName := ⟨RX7, "odds", "(III)J"⟩
abbrev cX7_sheet : ByteArray := prog_9_method_58_code
def yX7_sheet : MethodName := ⟨RX7, "sheet", "(III)I"⟩
abbrev cX7_lose : ByteArray := prog_9_method_59_code
def yX7_lose : MethodName := ⟨RX7, "lose", "(I)I"⟩
abbrev cX7_put : ByteArray := prog_9_method_60_code
def yX7_put : MethodName := ⟨RX7, "put", "(III)I"⟩
abbrev cX7_cell : ByteArray := prog_9_method_61_code
def yX7_cell : MethodName := ⟨RX7, "cell", "(III)J"⟩
abbrev cX7_copy : ByteArray := prog_9_method_62_code
def yX7_copy : MethodName := ⟨RX7, "copy", "(IIIII)I"⟩
abbrev cX7_begins : ByteArray := prog_9_method_63_code
def yX7_begins : MethodName := ⟨RX7, "begins", "(I)V"⟩
abbrev cX7_tell : ByteArray := prog_9_method_64_code
def yX7_tell : MethodName := ⟨RX7, "tell", "(I)I"⟩
abbrev cX7_tap : ByteArray := prog_9_method_65_code
def yX7_tap : MethodName := ⟨RX7, "tap", "(I)I"⟩
abbrev cX7_as : ByteArray := prog_9_method_66_code
def yX7_as : MethodName := ⟨RX7, "as", "(II)I"⟩
abbrev cX7_trace : ByteArray := prog_9_method_67_code
def yX7_trace : MethodName := ⟨RX7, "trace", "()I"⟩
abbrev cX7_fault : ByteArray := prog_9_method_68_code
def yX7_fault : MethodName := ⟨RX7, "fault", "()I"⟩
abbrev cX7_many : ByteArray := prog_9_method_69_code
def yX7_many : MethodName := ⟨RX7, "many", "(I)I"⟩
def RJ6 : String := "java/lang/Integer"
def TJ6 : u_T := fun k => match k with
  | _ => ("", "", "", false)
def tyJ6 : Nat → FieldType := fun k => match k with
  | _ => .int
abbrev wsJ60 : List Cond := u_ws RJ6 TJ6 0
theorem nmJ6 : ∀ a, a < 0 → ∀ b, b < 0 → a ≠ b → (TJ6 a).2.1 ≠ (TJ6 b).2.1 := by decide +kernel
theorem tyJ6_ok : ∀ k, k < 0 → parseFieldDescriptor (TJ6 k).2.2.1 = some (tyJ6 k) := by decide +kernel
abbrev cJ6_bitCount_0f7a4 : ByteArray := prog_10_method_49_code
def yJ6_bitCount_0f7a4 : MethodName := ⟨RJ6, "bitCount", "(I)I"⟩
def RJ9 : String := "java/lang/Math"
def TJ9 : u_T := fun k => match k with
  | _ => ("", "", "", false)
def tyJ9 : Nat → FieldType := fun k => match k with
  | _ => .int
abbrev wsJ90 : List Cond := u_ws RJ9 TJ9 0
theorem nmJ9 : ∀ a, a < 0 → ∀ b, b < 0 → a ≠ b → (TJ9 a).2.1 ≠ (TJ9 b).2.1 := by decide +kernel
theorem tyJ9_ok : ∀ k, k < 0 → parseFieldDescriptor (TJ9 k).2.2.1 = some (tyJ9 k) := by decide +kernel
abbrev cJ9_abs_0f7a4 : ByteArray := prog_11_method_59_code
def yJ9_abs_0f7a4 : MethodName := ⟨RJ9, "abs", "(I)I"⟩
abbrev cJ9_max_7cf53 : ByteArray := prog_11_method_65_code
def yJ9_max_7cf53 : MethodName := ⟨RJ9, "max", "(II)I"⟩
def RJ10 : String := "java/lang/System"
def TJ10 : u_T := fun k => match k with
  | _ => ("", "", "", false)
def tyJ10 : Nat → FieldType := fun k => match k with
  | _ => .int
abbrev wsJ100 : List Cond := u_ws RJ10 TJ10 0
theorem nmJ10 : ∀ a, a < 0 → ∀ b, b < 0 → a ≠ b → (TJ10 a).2.1 ≠ (TJ10 b).2.1 := by decide +kernel
theorem tyJ10_ok : ∀ k, k < 0 → parseFieldDescriptor (TJ10 k).2.2.1 = some (tyJ10 k) := by decide +kernel
def RJ7 : String := "java/util/Arrays"
def TJ7 : u_T := fun k => match k with
  | _ => ("", "", "", false)
def tyJ7 : Nat → FieldType := fun k => match k with
  | _ => .int
abbrev wsJ70 : List Cond := u_ws RJ7 TJ7 0
theorem nmJ7 : ∀ a, a < 0 → ∀ b, b < 0 → a ≠ b → (TJ7 a).2.1 ≠ (TJ7 b).2.1 := by decide +kernel
theorem tyJ7_ok : ∀ k, k < 0 → parseFieldDescriptor (TJ7 k).2.2.1 = some (tyJ7 k) := by decide +kernel
abbrev cJ7_fill_53178 : ByteArray := prog_13_method_103_code
def yJ7_fill_53178 : MethodName := ⟨RJ7, "fill", "([II)V"⟩
def RL : String := "RindTalkLaw"
abbrev cL_law : ByteArray := code
def yL_law : MethodName := ⟨RL, "law", "([I)Z"⟩
abbrev vwCl : List vw_C := [(RX0, TX0, 14), (RX1, TX1, 3), (RX2, TX2, 6), (RX3, TX3, 4), (RX4, TX4, 8), (RX5, TX5, 4), (RX6, TX6, 8), (RX7, TX7, 33)]
