/-! PART A of the skeleton (a starting text, pasted) -/
-- ===== PART A: goes FIRST, ahead of the names: the tables' words, and 'selects' of the private methods out of them =====
/-- a private method of a class that the tables say can be made, by its rows of tables_1 -/
def lw_okq (q : MethodName × Nat) : Prop := (q.1.cls ≠ "java/lang/invoke/MethodHandle" ∧ q.1.cls ≠ "java/lang/invoke/VarHandle") ∧ Cond.instantiable q.1.cls q.2 ∈ tables_1 ∧ Cond.privateMethod q.1 ∈ tables_1 ∧ Cond.instanceMethod q.1 ∈ tables_1
theorem lw_p0 : lw_okq (⟨"AlibiDeals", "remember", "()V"⟩, 11) := ⟨⟨by decide +kernel, by decide +kernel⟩, List.mem_of_getElem? (i := 18) (by decide +kernel), List.mem_of_getElem? (i := 198) (by decide +kernel), List.mem_of_getElem? (i := 199) (by decide +kernel)⟩
theorem lw_p1 : lw_okq (⟨"AlibiDeals", "dropOldest", "()V"⟩, 11) := ⟨⟨by decide +kernel, by decide +kernel⟩, List.mem_of_getElem? (i := 18) (by decide +kernel), List.mem_of_getElem? (i := 202) (by decide +kernel), List.mem_of_getElem? (i := 203) (by decide +kernel)⟩
theorem lw_p2 : lw_okq (⟨"AlibiDeals", "forgetCounts", "()V"⟩, 11) := ⟨⟨by decide +kernel, by decide +kernel⟩, List.mem_of_getElem? (i := 18) (by decide +kernel), List.mem_of_getElem? (i := 210) (by decide +kernel), List.mem_of_getElem? (i := 211) (by decide +kernel)⟩
theorem lw_p3 : lw_okq (⟨"AlibiDeals$TextReader", "takeLetter", "(I)Z"⟩, 4) := ⟨⟨by decide +kernel, by decide +kernel⟩, List.mem_of_getElem? (i := 68) (by decide +kernel), List.mem_of_getElem? (i := 230) (by decide +kernel), List.mem_of_getElem? (i := 231) (by decide +kernel)⟩
theorem lw_p4 : lw_okq (⟨"AlibiDeals$TextReader", "takePlayer", "(I)Z"⟩, 4) := ⟨⟨by decide +kernel, by decide +kernel⟩, List.mem_of_getElem? (i := 68) (by decide +kernel), List.mem_of_getElem? (i := 240) (by decide +kernel), List.mem_of_getElem? (i := 241) (by decide +kernel)⟩
theorem lw_p5 : lw_okq (⟨"AlibiDeals$TextReader", "takeFirstDigit", "(I)Z"⟩, 4) := ⟨⟨by decide +kernel, by decide +kernel⟩, List.mem_of_getElem? (i := 68) (by decide +kernel), List.mem_of_getElem? (i := 244) (by decide +kernel), List.mem_of_getElem? (i := 245) (by decide +kernel)⟩
theorem lw_p6 : lw_okq (⟨"AlibiDeals$TextReader", "takeMore", "(I)Z"⟩, 4) := ⟨⟨by decide +kernel, by decide +kernel⟩, List.mem_of_getElem? (i := 68) (by decide +kernel), List.mem_of_getElem? (i := 251) (by decide +kernel), List.mem_of_getElem? (i := 252) (by decide +kernel)⟩
theorem lw_p7 : lw_okq (⟨"AlibiDeals", "countedDeals", "()LAlibiDeals$DealCount;"⟩, 11) := ⟨⟨by decide +kernel, by decide +kernel⟩, List.mem_of_getElem? (i := 18) (by decide +kernel), List.mem_of_getElem? (i := 290) (by decide +kernel), List.mem_of_getElem? (i := 291) (by decide +kernel)⟩
theorem lw_p8 : lw_okq (⟨"AlibiDeals$DealCount", "judge", "(ILAlibiDeals$State;)V"⟩, 7) := ⟨⟨by decide +kernel, by decide +kernel⟩, List.mem_of_getElem? (i := 90) (by decide +kernel), List.mem_of_getElem? (i := 304) (by decide +kernel), List.mem_of_getElem? (i := 305) (by decide +kernel)⟩
theorem lw_p9 : lw_okq (⟨"AlibiDeals$DealCount", "include", "(I)V"⟩, 7) := ⟨⟨by decide +kernel, by decide +kernel⟩, List.mem_of_getElem? (i := 90) (by decide +kernel), List.mem_of_getElem? (i := 309) (by decide +kernel), List.mem_of_getElem? (i := 310) (by decide +kernel)⟩
theorem lw_p10 : lw_okq (⟨"AlibiDeals$DealCount", "hasRoom", "(II)Z"⟩, 7) := ⟨⟨by decide +kernel, by decide +kernel⟩, List.mem_of_getElem? (i := 90) (by decide +kernel), List.mem_of_getElem? (i := 313) (by decide +kernel), List.mem_of_getElem? (i := 314) (by decide +kernel)⟩
theorem lw_p11 : lw_okq (⟨"AlibiDeals", "countedHands", "()LAlibiDeals$HandCount;"⟩, 11) := ⟨⟨by decide +kernel, by decide +kernel⟩, List.mem_of_getElem? (i := 18) (by decide +kernel), List.mem_of_getElem? (i := 330) (by decide +kernel), List.mem_of_getElem? (i := 331) (by decide +kernel)⟩
theorem lw_p12 : lw_okq (⟨"AlibiDeals", "filledSheet", "()LAlibiDeals$RuleSheet;"⟩, 11) := ⟨⟨by decide +kernel, by decide +kernel⟩, List.mem_of_getElem? (i := 18) (by decide +kernel), List.mem_of_getElem? (i := 372) (by decide +kernel), List.mem_of_getElem? (i := 373) (by decide +kernel)⟩
theorem lw_p13 : lw_okq (⟨"AlibiDeals$RuleSheet", "setAll", "(I)V"⟩, 3) := ⟨⟨by decide +kernel, by decide +kernel⟩, List.mem_of_getElem? (i := 138) (by decide +kernel), List.mem_of_getElem? (i := 380) (by decide +kernel), List.mem_of_getElem? (i := 381) (by decide +kernel)⟩
theorem lw_p14 : lw_okq (⟨"AlibiDeals$RuleSheet", "applyClues", "(LAlibiDeals$State;)V"⟩, 3) := ⟨⟨by decide +kernel, by decide +kernel⟩, List.mem_of_getElem? (i := 138) (by decide +kernel), List.mem_of_getElem? (i := 384) (by decide +kernel), List.mem_of_getElem? (i := 385) (by decide +kernel)⟩
theorem lw_p15 : lw_okq (⟨"AlibiDeals$RuleSheet", "applyClue", "(III)V"⟩, 3) := ⟨⟨by decide +kernel, by decide +kernel⟩, List.mem_of_getElem? (i := 138) (by decide +kernel), List.mem_of_getElem? (i := 388) (by decide +kernel), List.mem_of_getElem? (i := 389) (by decide +kernel)⟩
def lw_privs_1 : List (MethodName × Nat) := [(⟨"AlibiDeals", "remember", "()V"⟩, 11), (⟨"AlibiDeals", "dropOldest", "()V"⟩, 11), (⟨"AlibiDeals", "forgetCounts", "()V"⟩, 11), (⟨"AlibiDeals$TextReader", "takeLetter", "(I)Z"⟩, 4), (⟨"AlibiDeals$TextReader", "takePlayer", "(I)Z"⟩, 4), (⟨"AlibiDeals$TextReader", "takeFirstDigit", "(I)Z"⟩, 4), (⟨"AlibiDeals$TextReader", "takeMore", "(I)Z"⟩, 4), (⟨"AlibiDeals", "countedDeals", "()LAlibiDeals$DealCount;"⟩, 11), (⟨"AlibiDeals$DealCount", "judge", "(ILAlibiDeals$State;)V"⟩, 7), (⟨"AlibiDeals$DealCount", "include", "(I)V"⟩, 7), (⟨"AlibiDeals$DealCount", "hasRoom", "(II)Z"⟩, 7), (⟨"AlibiDeals", "countedHands", "()LAlibiDeals$HandCount;"⟩, 11), (⟨"AlibiDeals", "filledSheet", "()LAlibiDeals$RuleSheet;"⟩, 11), (⟨"AlibiDeals$RuleSheet", "setAll", "(I)V"⟩, 3), (⟨"AlibiDeals$RuleSheet", "applyClues", "(LAlibiDeals$State;)V"⟩, 3), (⟨"AlibiDeals$RuleSheet", "applyClue", "(III)V"⟩, 3)]
theorem lw_r1 : ∀ q ∈ lw_privs_1, lw_okq q := List.forall_mem_cons.mpr ⟨lw_p0, List.forall_mem_cons.mpr ⟨lw_p1, List.forall_mem_cons.mpr ⟨lw_p2, List.forall_mem_cons.mpr ⟨lw_p3, List.forall_mem_cons.mpr ⟨lw_p4, List.forall_mem_cons.mpr ⟨lw_p5, List.forall_mem_cons.mpr ⟨lw_p6, List.forall_mem_cons.mpr ⟨lw_p7, List.forall_mem_cons.mpr ⟨lw_p8, List.forall_mem_cons.mpr ⟨lw_p9, List.forall_mem_cons.mpr ⟨lw_p10, List.forall_mem_cons.mpr ⟨lw_p11, List.forall_mem_cons.mpr ⟨lw_p12, List.forall_mem_cons.mpr ⟨lw_p13, List.forall_mem_cons.mpr ⟨lw_p14, List.forall_mem_cons.mpr ⟨lw_p15, fun _ h => absurd h List.not_mem_nil⟩⟩⟩⟩⟩⟩⟩⟩⟩⟩⟩⟩⟩⟩⟩⟩
theorem lw_p16 : lw_okq (⟨"AlibiDeals$RuleSheet", "keepOnly", "(II)V"⟩, 3) := ⟨⟨by decide +kernel, by decide +kernel⟩, List.mem_of_getElem? (i := 138) (by decide +kernel), List.mem_of_getElem? (i := 392) (by decide +kernel), List.mem_of_getElem? (i := 393) (by decide +kernel)⟩
theorem lw_p17 : lw_okq (⟨"AlibiDeals$RuleSheet", "crossOff", "(II)V"⟩, 3) := ⟨⟨by decide +kernel, by decide +kernel⟩, List.mem_of_getElem? (i := 138) (by decide +kernel), List.mem_of_getElem? (i := 396) (by decide +kernel), List.mem_of_getElem? (i := 397) (by decide +kernel)⟩
theorem lw_p18 : lw_okq (⟨"AlibiDeals$RuleSheet", "keepIfJust", "(III)V"⟩, 3) := ⟨⟨by decide +kernel, by decide +kernel⟩, List.mem_of_getElem? (i := 138) (by decide +kernel), List.mem_of_getElem? (i := 400) (by decide +kernel), List.mem_of_getElem? (i := 401) (by decide +kernel)⟩
theorem lw_p19 : lw_okq (⟨"AlibiDeals$RuleSheet", "withPlace", "(II)I"⟩, 3) := ⟨⟨by decide +kernel, by decide +kernel⟩, List.mem_of_getElem? (i := 138) (by decide +kernel), List.mem_of_getElem? (i := 404) (by decide +kernel), List.mem_of_getElem? (i := 405) (by decide +kernel)⟩
theorem lw_p20 : lw_okq (⟨"AlibiDeals$RuleSheet", "crossIfSure", "(III)V"⟩, 3) := ⟨⟨by decide +kernel, by decide +kernel⟩, List.mem_of_getElem? (i := 138) (by decide +kernel), List.mem_of_getElem? (i := 409) (by decide +kernel), List.mem_of_getElem? (i := 410) (by decide +kernel)⟩
theorem lw_p21 : lw_okq (⟨"AlibiDeals$RuleSheet", "withOnly", "(II)I"⟩, 3) := ⟨⟨by decide +kernel, by decide +kernel⟩, List.mem_of_getElem? (i := 138) (by decide +kernel), List.mem_of_getElem? (i := 413) (by decide +kernel), List.mem_of_getElem? (i := 414) (by decide +kernel)⟩
theorem lw_p22 : lw_okq (⟨"AlibiDeals$RuleSheet", "applyKinds", "()V"⟩, 3) := ⟨⟨by decide +kernel, by decide +kernel⟩, List.mem_of_getElem? (i := 138) (by decide +kernel), List.mem_of_getElem? (i := 417) (by decide +kernel), List.mem_of_getElem? (i := 418) (by decide +kernel)⟩
theorem lw_p23 : lw_okq (⟨"AlibiDeals$RuleSheet", "applyPlayers", "()V"⟩, 3) := ⟨⟨by decide +kernel, by decide +kernel⟩, List.mem_of_getElem? (i := 138) (by decide +kernel), List.mem_of_getElem? (i := 422) (by decide +kernel), List.mem_of_getElem? (i := 423) (by decide +kernel)⟩
theorem lw_p24 : lw_okq (⟨"AlibiDeals$RuleSheet", "breaksDown", "()Z"⟩, 3) := ⟨⟨by decide +kernel, by decide +kernel⟩, List.mem_of_getElem? (i := 138) (by decide +kernel), List.mem_of_getElem? (i := 430) (by decide +kernel), List.mem_of_getElem? (i := 431) (by decide +kernel)⟩
theorem lw_p25 : lw_okq (⟨"AlibiDeals$RuleSheet", "fits", "(III)Z"⟩, 3) := ⟨⟨by decide +kernel, by decide +kernel⟩, List.mem_of_getElem? (i := 138) (by decide +kernel), List.mem_of_getElem? (i := 434) (by decide +kernel), List.mem_of_getElem? (i := 435) (by decide +kernel)⟩
theorem lw_p26 : lw_okq (⟨"AlibiDeals$RuleSheet", "breaksClue", "(LAlibiDeals$State;)Z"⟩, 3) := ⟨⟨by decide +kernel, by decide +kernel⟩, List.mem_of_getElem? (i := 138) (by decide +kernel), List.mem_of_getElem? (i := 438) (by decide +kernel), List.mem_of_getElem? (i := 439) (by decide +kernel)⟩
theorem lw_p27 : lw_okq (⟨"AlibiDeals", "mixCounts", "(JLAlibiDeals$DealCount;LAlibiDeals$RuleSheet;)J"⟩, 11) := ⟨⟨by decide +kernel, by decide +kernel⟩, List.mem_of_getElem? (i := 18) (by decide +kernel), List.mem_of_getElem? (i := 500) (by decide +kernel), List.mem_of_getElem? (i := 501) (by decide +kernel)⟩
theorem lw_p28 : lw_okq (⟨"AlibiDeals", "mixClues", "(JLAlibiDeals$DealCount;)J"⟩, 11) := ⟨⟨by decide +kernel, by decide +kernel⟩, List.mem_of_getElem? (i := 18) (by decide +kernel), List.mem_of_getElem? (i := 535) (by decide +kernel), List.mem_of_getElem? (i := 536) (by decide +kernel)⟩
theorem lw_p29 : lw_okq (⟨"AlibiDeals", "checkClue", "(I)V"⟩, 11) := ⟨⟨by decide +kernel, by decide +kernel⟩, List.mem_of_getElem? (i := 18) (by decide +kernel), List.mem_of_getElem? (i := 543) (by decide +kernel), List.mem_of_getElem? (i := 544) (by decide +kernel)⟩
theorem lw_p30 : lw_okq (⟨"java/lang/Throwable", "fillInStackTrace", "(I)Ljava/lang/Throwable;"⟩, 6) := ⟨⟨by decide +kernel, by decide +kernel⟩, List.mem_of_getElem? (i := 585) (by decide +kernel), List.mem_of_getElem? (i := 583) (by decide +kernel), List.mem_of_getElem? (i := 584) (by decide +kernel)⟩
theorem lw_p31 : lw_okq (⟨"AlibiDeals", "mixCards", "(JLAlibiDeals$DealCount;LAlibiDeals$RuleSheet;)J"⟩, 11) := ⟨⟨by decide +kernel, by decide +kernel⟩, List.mem_of_getElem? (i := 18) (by decide +kernel), List.mem_of_getElem? (i := 628) (by decide +kernel), List.mem_of_getElem? (i := 629) (by decide +kernel)⟩
def lw_privs_2 : List (MethodName × Nat) := [(⟨"AlibiDeals$RuleSheet", "keepOnly", "(II)V"⟩, 3), (⟨"AlibiDeals$RuleSheet", "crossOff", "(II)V"⟩, 3), (⟨"AlibiDeals$RuleSheet", "keepIfJust", "(III)V"⟩, 3), (⟨"AlibiDeals$RuleSheet", "withPlace", "(II)I"⟩, 3), (⟨"AlibiDeals$RuleSheet", "crossIfSure", "(III)V"⟩, 3), (⟨"AlibiDeals$RuleSheet", "withOnly", "(II)I"⟩, 3), (⟨"AlibiDeals$RuleSheet", "applyKinds", "()V"⟩, 3), (⟨"AlibiDeals$RuleSheet", "applyPlayers", "()V"⟩, 3), (⟨"AlibiDeals$RuleSheet", "breaksDown", "()Z"⟩, 3), (⟨"AlibiDeals$RuleSheet", "fits", "(III)Z"⟩, 3), (⟨"AlibiDeals$RuleSheet", "breaksClue", "(LAlibiDeals$State;)Z"⟩, 3), (⟨"AlibiDeals", "mixCounts", "(JLAlibiDeals$DealCount;LAlibiDeals$RuleSheet;)J"⟩, 11), (⟨"AlibiDeals", "mixClues", "(JLAlibiDeals$DealCount;)J"⟩, 11), (⟨"AlibiDeals", "checkClue", "(I)V"⟩, 11), (⟨"java/lang/Throwable", "fillInStackTrace", "(I)Ljava/lang/Throwable;"⟩, 6), (⟨"AlibiDeals", "mixCards", "(JLAlibiDeals$DealCount;LAlibiDeals$RuleSheet;)J"⟩, 11)]
theorem lw_r2 : ∀ q ∈ lw_privs_2, lw_okq q := List.forall_mem_cons.mpr ⟨lw_p16, List.forall_mem_cons.mpr ⟨lw_p17, List.forall_mem_cons.mpr ⟨lw_p18, List.forall_mem_cons.mpr ⟨lw_p19, List.forall_mem_cons.mpr ⟨lw_p20, List.forall_mem_cons.mpr ⟨lw_p21, List.forall_mem_cons.mpr ⟨lw_p22, List.forall_mem_cons.mpr ⟨lw_p23, List.forall_mem_cons.mpr ⟨lw_p24, List.forall_mem_cons.mpr ⟨lw_p25, List.forall_mem_cons.mpr ⟨lw_p26, List.forall_mem_cons.mpr ⟨lw_p27, List.forall_mem_cons.mpr ⟨lw_p28, List.forall_mem_cons.mpr ⟨lw_p29, List.forall_mem_cons.mpr ⟨lw_p30, List.forall_mem_cons.mpr ⟨lw_p31, fun _ h => absurd h List.not_mem_nil⟩⟩⟩⟩⟩⟩⟩⟩⟩⟩⟩⟩⟩⟩⟩⟩
theorem lw_p32 : lw_okq (⟨"AlibiDeals", "mixStop", "(J)J"⟩, 11) := ⟨⟨by decide +kernel, by decide +kernel⟩, List.mem_of_getElem? (i := 18) (by decide +kernel), List.mem_of_getElem? (i := 659) (by decide +kernel), List.mem_of_getElem? (i := 660) (by decide +kernel)⟩
theorem lw_p33 : lw_okq (⟨"AlibiDeals", "checkStopped", "()V"⟩, 11) := ⟨⟨by decide +kernel, by decide +kernel⟩, List.mem_of_getElem? (i := 18) (by decide +kernel), List.mem_of_getElem? (i := 668) (by decide +kernel), List.mem_of_getElem? (i := 669) (by decide +kernel)⟩
theorem lw_p34 : lw_okq (⟨"AlibiDeals", "mixBuffer", "(J)J"⟩, 11) := ⟨⟨by decide +kernel, by decide +kernel⟩, List.mem_of_getElem? (i := 18) (by decide +kernel), List.mem_of_getElem? (i := 698) (by decide +kernel), List.mem_of_getElem? (i := 699) (by decide +kernel)⟩
theorem lw_p35 : lw_okq (⟨"AlibiDeals", "checkRoomForClue", "()V"⟩, 11) := ⟨⟨by decide +kernel, by decide +kernel⟩, List.mem_of_getElem? (i := 18) (by decide +kernel), List.mem_of_getElem? (i := 731) (by decide +kernel), List.mem_of_getElem? (i := 732) (by decide +kernel)⟩
theorem lw_p36 : lw_okq (⟨"AlibiDeals$State", "handOf", "(II)I"⟩, 7) := ⟨⟨by decide +kernel, by decide +kernel⟩, List.mem_of_getElem? (i := 26) (by decide +kernel), List.mem_of_getElem? (i := 782) (by decide +kernel), List.mem_of_getElem? (i := 783) (by decide +kernel)⟩
theorem lw_p37 : lw_okq (⟨"AlibiDeals", "doPart", "(III)I"⟩, 11) := ⟨⟨by decide +kernel, by decide +kernel⟩, List.mem_of_getElem? (i := 18) (by decide +kernel), List.mem_of_getElem? (i := 847) (by decide +kernel), List.mem_of_getElem? (i := 848) (by decide +kernel)⟩
theorem lw_p38 : lw_okq (⟨"AlibiDeals", "addPart", "(III)V"⟩, 11) := ⟨⟨by decide +kernel, by decide +kernel⟩, List.mem_of_getElem? (i := 18) (by decide +kernel), List.mem_of_getElem? (i := 851) (by decide +kernel), List.mem_of_getElem? (i := 852) (by decide +kernel)⟩
theorem lw_p39 : lw_okq (⟨"AlibiDealsModel", "fails", "(I)I"⟩, 19) := ⟨⟨by decide +kernel, by decide +kernel⟩, List.mem_of_getElem? (i := 990) (by decide +kernel), List.mem_of_getElem? (i := 1068) (by decide +kernel), List.mem_of_getElem? (i := 1069) (by decide +kernel)⟩
theorem lw_p40 : lw_okq (⟨"AlibiDealsModel", "records", "()V"⟩, 19) := ⟨⟨by decide +kernel, by decide +kernel⟩, List.mem_of_getElem? (i := 990) (by decide +kernel), List.mem_of_getElem? (i := 1072) (by decide +kernel), List.mem_of_getElem? (i := 1073) (by decide +kernel)⟩
theorem lw_p41 : lw_okq (⟨"AlibiDealsModel", "changes", "(II)V"⟩, 19) := ⟨⟨by decide +kernel, by decide +kernel⟩, List.mem_of_getElem? (i := 990) (by decide +kernel), List.mem_of_getElem? (i := 1076) (by decide +kernel), List.mem_of_getElem? (i := 1077) (by decide +kernel)⟩
theorem lw_p42 : lw_okq (⟨"AlibiDealsModel", "masterTriple", "()I"⟩, 19) := ⟨⟨by decide +kernel, by decide +kernel⟩, List.mem_of_getElem? (i := 990) (by decide +kernel), List.mem_of_getElem? (i := 1080) (by decide +kernel), List.mem_of_getElem? (i := 1081) (by decide +kernel)⟩
theorem lw_p43 : lw_okq (⟨"AlibiDealsModel", "looksAtMaster", "()V"⟩, 19) := ⟨⟨by decide +kernel, by decide +kernel⟩, List.mem_of_getElem? (i := 990) (by decide +kernel), List.mem_of_getElem? (i := 1084) (by decide +kernel), List.mem_of_getElem? (i := 1085) (by decide +kernel)⟩
theorem lw_p44 : lw_okq (⟨"AlibiDealsModel", "notes", "(III)I"⟩, 19) := ⟨⟨by decide +kernel, by decide +kernel⟩, List.mem_of_getElem? (i := 990) (by decide +kernel), List.mem_of_getElem? (i := 1098) (by decide +kernel), List.mem_of_getElem? (i := 1099) (by decide +kernel)⟩
theorem lw_p45 : lw_okq (⟨"AlibiDealsModel", "adds", "(III)I"⟩, 19) := ⟨⟨by decide +kernel, by decide +kernel⟩, List.mem_of_getElem? (i := 990) (by decide +kernel), List.mem_of_getElem? (i := 1102) (by decide +kernel), List.mem_of_getElem? (i := 1103) (by decide +kernel)⟩
theorem lw_p46 : lw_okq (⟨"AlibiDealsModel", "isClue", "(I)Z"⟩, 19) := ⟨⟨by decide +kernel, by decide +kernel⟩, List.mem_of_getElem? (i := 990) (by decide +kernel), List.mem_of_getElem? (i := 1124) (by decide +kernel), List.mem_of_getElem? (i := 1125) (by decide +kernel)⟩
theorem lw_p47 : lw_okq (⟨"AlibiDealsModel", "drops", "(I)V"⟩, 19) := ⟨⟨by decide +kernel, by decide +kernel⟩, List.mem_of_getElem? (i := 990) (by decide +kernel), List.mem_of_getElem? (i := 1128) (by decide +kernel), List.mem_of_getElem? (i := 1129) (by decide +kernel)⟩
def lw_privs_3 : List (MethodName × Nat) := [(⟨"AlibiDeals", "mixStop", "(J)J"⟩, 11), (⟨"AlibiDeals", "checkStopped", "()V"⟩, 11), (⟨"AlibiDeals", "mixBuffer", "(J)J"⟩, 11), (⟨"AlibiDeals", "checkRoomForClue", "()V"⟩, 11), (⟨"AlibiDeals$State", "handOf", "(II)I"⟩, 7), (⟨"AlibiDeals", "doPart", "(III)I"⟩, 11), (⟨"AlibiDeals", "addPart", "(III)V"⟩, 11), (⟨"AlibiDealsModel", "fails", "(I)I"⟩, 19), (⟨"AlibiDealsModel", "records", "()V"⟩, 19), (⟨"AlibiDealsModel", "changes", "(II)V"⟩, 19), (⟨"AlibiDealsModel", "masterTriple", "()I"⟩, 19), (⟨"AlibiDealsModel", "looksAtMaster", "()V"⟩, 19), (⟨"AlibiDealsModel", "notes", "(III)I"⟩, 19), (⟨"AlibiDealsModel", "adds", "(III)I"⟩, 19), (⟨"AlibiDealsModel", "isClue", "(I)Z"⟩, 19), (⟨"AlibiDealsModel", "drops", "(I)V"⟩, 19)]
theorem lw_r3 : ∀ q ∈ lw_privs_3, lw_okq q := List.forall_mem_cons.mpr ⟨lw_p32, List.forall_mem_cons.mpr ⟨lw_p33, List.forall_mem_cons.mpr ⟨lw_p34, List.forall_mem_cons.mpr ⟨lw_p35, List.forall_mem_cons.mpr ⟨lw_p36, List.forall_mem_cons.mpr ⟨lw_p37, List.forall_mem_cons.mpr ⟨lw_p38, List.forall_mem_cons.mpr ⟨lw_p39, List.forall_mem_cons.mpr ⟨lw_p40, List.forall_mem_cons.mpr ⟨lw_p41, List.forall_mem_cons.mpr ⟨lw_p42, List.forall_mem_cons.mpr ⟨lw_p43, List.forall_mem_cons.mpr ⟨lw_p44, List.forall_mem_cons.mpr ⟨lw_p45, List.forall_mem_cons.mpr ⟨lw_p46, List.forall_mem_cons.mpr ⟨lw_p47, fun _ h => absurd h List.not_mem_nil⟩⟩⟩⟩⟩⟩⟩⟩⟩⟩⟩⟩⟩⟩⟩⟩
theorem lw_p48 : lw_okq (⟨"AlibiDealsModel", "barsQuestion", "(Z)I"⟩, 19) := ⟨⟨by decide +kernel, by decide +kernel⟩, List.mem_of_getElem? (i := 990) (by decide +kernel), List.mem_of_getElem? (i := 1140) (by decide +kernel), List.mem_of_getElem? (i := 1141) (by decide +kernel)⟩
theorem lw_p49 : lw_okq (⟨"AlibiDealsModel", "asks", "(II)Z"⟩, 19) := ⟨⟨by decide +kernel, by decide +kernel⟩, List.mem_of_getElem? (i := 990) (by decide +kernel), List.mem_of_getElem? (i := 1144) (by decide +kernel), List.mem_of_getElem? (i := 1145) (by decide +kernel)⟩
theorem lw_p50 : lw_okq (⟨"AlibiDealsModel", "looksAt", "(II)I"⟩, 19) := ⟨⟨by decide +kernel, by decide +kernel⟩, List.mem_of_getElem? (i := 990) (by decide +kernel), List.mem_of_getElem? (i := 1152) (by decide +kernel), List.mem_of_getElem? (i := 1153) (by decide +kernel)⟩
theorem lw_p51 : lw_okq (⟨"AlibiDealsModel", "accuses", "(I)Z"⟩, 19) := ⟨⟨by decide +kernel, by decide +kernel⟩, List.mem_of_getElem? (i := 990) (by decide +kernel), List.mem_of_getElem? (i := 1160) (by decide +kernel), List.mem_of_getElem? (i := 1161) (by decide +kernel)⟩
theorem lw_p52 : lw_okq (⟨"AlibiDealsModel", "readsWorks", "()Z"⟩, 19) := ⟨⟨by decide +kernel, by decide +kernel⟩, List.mem_of_getElem? (i := 990) (by decide +kernel), List.mem_of_getElem? (i := 1176) (by decide +kernel), List.mem_of_getElem? (i := 1177) (by decide +kernel)⟩
theorem lw_p53 : lw_okq (⟨"AlibiDealsModel", "readsPart", "()V"⟩, 19) := ⟨⟨by decide +kernel, by decide +kernel⟩, List.mem_of_getElem? (i := 990) (by decide +kernel), List.mem_of_getElem? (i := 1180) (by decide +kernel), List.mem_of_getElem? (i := 1181) (by decide +kernel)⟩
theorem lw_p54 : lw_okq (⟨"AlibiDealsModel", "sign", "()I"⟩, 19) := ⟨⟨by decide +kernel, by decide +kernel⟩, List.mem_of_getElem? (i := 990) (by decide +kernel), List.mem_of_getElem? (i := 1184) (by decide +kernel), List.mem_of_getElem? (i := 1185) (by decide +kernel)⟩
theorem lw_p55 : lw_okq (⟨"AlibiDealsModel", "takes", "(II)I"⟩, 19) := ⟨⟨by decide +kernel, by decide +kernel⟩, List.mem_of_getElem? (i := 990) (by decide +kernel), List.mem_of_getElem? (i := 1188) (by decide +kernel), List.mem_of_getElem? (i := 1189) (by decide +kernel)⟩
theorem lw_p56 : lw_okq (⟨"AlibiDealsModel", "number", "(I)I"⟩, 19) := ⟨⟨by decide +kernel, by decide +kernel⟩, List.mem_of_getElem? (i := 990) (by decide +kernel), List.mem_of_getElem? (i := 1192) (by decide +kernel), List.mem_of_getElem? (i := 1193) (by decide +kernel)⟩
theorem lw_p57 : lw_okq (⟨"AlibiDealsModel", "does", "(I)I"⟩, 19) := ⟨⟨by decide +kernel, by decide +kernel⟩, List.mem_of_getElem? (i := 990) (by decide +kernel), List.mem_of_getElem? (i := 1200) (by decide +kernel), List.mem_of_getElem? (i := 1201) (by decide +kernel)⟩
theorem lw_p58 : lw_okq (⟨"AlibiDealsModel", "tells", "(II)I"⟩, 19) := ⟨⟨by decide +kernel, by decide +kernel⟩, List.mem_of_getElem? (i := 990) (by decide +kernel), List.mem_of_getElem? (i := 1248) (by decide +kernel), List.mem_of_getElem? (i := 1249) (by decide +kernel)⟩
theorem lw_p59 : lw_okq (⟨"AlibiDealsModel", "of", "(II)I"⟩, 19) := ⟨⟨by decide +kernel, by decide +kernel⟩, List.mem_of_getElem? (i := 990) (by decide +kernel), List.mem_of_getElem? (i := 1252) (by decide +kernel), List.mem_of_getElem? (i := 1253) (by decide +kernel)⟩
theorem lw_p60 : lw_okq (⟨"AlibiDealsModel", "holdsTrue", "(I)Z"⟩, 19) := ⟨⟨by decide +kernel, by decide +kernel⟩, List.mem_of_getElem? (i := 990) (by decide +kernel), List.mem_of_getElem? (i := 1268) (by decide +kernel), List.mem_of_getElem? (i := 1269) (by decide +kernel)⟩
theorem lw_p61 : lw_okq (⟨"AlibiDealsModel", "agrees", "(I)Z"⟩, 19) := ⟨⟨by decide +kernel, by decide +kernel⟩, List.mem_of_getElem? (i := 990) (by decide +kernel), List.mem_of_getElem? (i := 1272) (by decide +kernel), List.mem_of_getElem? (i := 1273) (by decide +kernel)⟩
theorem lw_p62 : lw_okq (⟨"AlibiDealsModel", "untrueMany", "()I"⟩, 19) := ⟨⟨by decide +kernel, by decide +kernel⟩, List.mem_of_getElem? (i := 990) (by decide +kernel), List.mem_of_getElem? (i := 1280) (by decide +kernel), List.mem_of_getElem? (i := 1281) (by decide +kernel)⟩
theorem lw_p63 : lw_okq (⟨"AlibiDealsModel", "goes", "(IZ)I"⟩, 19) := ⟨⟨by decide +kernel, by decide +kernel⟩, List.mem_of_getElem? (i := 990) (by decide +kernel), List.mem_of_getElem? (i := 1288) (by decide +kernel), List.mem_of_getElem? (i := 1289) (by decide +kernel)⟩
def lw_privs_4 : List (MethodName × Nat) := [(⟨"AlibiDealsModel", "barsQuestion", "(Z)I"⟩, 19), (⟨"AlibiDealsModel", "asks", "(II)Z"⟩, 19), (⟨"AlibiDealsModel", "looksAt", "(II)I"⟩, 19), (⟨"AlibiDealsModel", "accuses", "(I)Z"⟩, 19), (⟨"AlibiDealsModel", "readsWorks", "()Z"⟩, 19), (⟨"AlibiDealsModel", "readsPart", "()V"⟩, 19), (⟨"AlibiDealsModel", "sign", "()I"⟩, 19), (⟨"AlibiDealsModel", "takes", "(II)I"⟩, 19), (⟨"AlibiDealsModel", "number", "(I)I"⟩, 19), (⟨"AlibiDealsModel", "does", "(I)I"⟩, 19), (⟨"AlibiDealsModel", "tells", "(II)I"⟩, 19), (⟨"AlibiDealsModel", "of", "(II)I"⟩, 19), (⟨"AlibiDealsModel", "holdsTrue", "(I)Z"⟩, 19), (⟨"AlibiDealsModel", "agrees", "(I)Z"⟩, 19), (⟨"AlibiDealsModel", "untrueMany", "()I"⟩, 19), (⟨"AlibiDealsModel", "goes", "(IZ)I"⟩, 19)]
theorem lw_r4 : ∀ q ∈ lw_privs_4, lw_okq q := List.forall_mem_cons.mpr ⟨lw_p48, List.forall_mem_cons.mpr ⟨lw_p49, List.forall_mem_cons.mpr ⟨lw_p50, List.forall_mem_cons.mpr ⟨lw_p51, List.forall_mem_cons.mpr ⟨lw_p52, List.forall_mem_cons.mpr ⟨lw_p53, List.forall_mem_cons.mpr ⟨lw_p54, List.forall_mem_cons.mpr ⟨lw_p55, List.forall_mem_cons.mpr ⟨lw_p56, List.forall_mem_cons.mpr ⟨lw_p57, List.forall_mem_cons.mpr ⟨lw_p58, List.forall_mem_cons.mpr ⟨lw_p59, List.forall_mem_cons.mpr ⟨lw_p60, List.forall_mem_cons.mpr ⟨lw_p61, List.forall_mem_cons.mpr ⟨lw_p62, List.forall_mem_cons.mpr ⟨lw_p63, fun _ h => absurd h List.not_mem_nil⟩⟩⟩⟩⟩⟩⟩⟩⟩⟩⟩⟩⟩⟩⟩⟩
theorem lw_p64 : lw_okq (⟨"AlibiDealsModel", "agreesAll", "(I)Z"⟩, 19) := ⟨⟨by decide +kernel, by decide +kernel⟩, List.mem_of_getElem? (i := 990) (by decide +kernel), List.mem_of_getElem? (i := 1295) (by decide +kernel), List.mem_of_getElem? (i := 1296) (by decide +kernel)⟩
theorem lw_p65 : lw_okq (⟨"AlibiDealsModel", "countsDeal", "(I)V"⟩, 19) := ⟨⟨by decide +kernel, by decide +kernel⟩, List.mem_of_getElem? (i := 990) (by decide +kernel), List.mem_of_getElem? (i := 1299) (by decide +kernel), List.mem_of_getElem? (i := 1300) (by decide +kernel)⟩
theorem lw_p66 : lw_okq (⟨"AlibiDealsModel", "tellsWith", "(II)I"⟩, 19) := ⟨⟨by decide +kernel, by decide +kernel⟩, List.mem_of_getElem? (i := 990) (by decide +kernel), List.mem_of_getElem? (i := 1311) (by decide +kernel), List.mem_of_getElem? (i := 1312) (by decide +kernel)⟩
theorem lw_p67 : lw_okq (⟨"AlibiDealsModel", "surveys", "()V"⟩, 19) := ⟨⟨by decide +kernel, by decide +kernel⟩, List.mem_of_getElem? (i := 990) (by decide +kernel), List.mem_of_getElem? (i := 1315) (by decide +kernel), List.mem_of_getElem? (i := 1316) (by decide +kernel)⟩
theorem lw_p68 : lw_okq (⟨"AlibiDealsModel", "certain", "(I)I"⟩, 19) := ⟨⟨by decide +kernel, by decide +kernel⟩, List.mem_of_getElem? (i := 990) (by decide +kernel), List.mem_of_getElem? (i := 1327) (by decide +kernel), List.mem_of_getElem? (i := 1328) (by decide +kernel)⟩
theorem lw_p69 : lw_okq (⟨"AlibiDealsModel", "certainMany", "()I"⟩, 19) := ⟨⟨by decide +kernel, by decide +kernel⟩, List.mem_of_getElem? (i := 990) (by decide +kernel), List.mem_of_getElem? (i := 1335) (by decide +kernel), List.mem_of_getElem? (i := 1336) (by decide +kernel)⟩
theorem lw_p70 : lw_okq (⟨"AlibiDealsModel", "rules", "()V"⟩, 19) := ⟨⟨by decide +kernel, by decide +kernel⟩, List.mem_of_getElem? (i := 990) (by decide +kernel), List.mem_of_getElem? (i := 1343) (by decide +kernel), List.mem_of_getElem? (i := 1344) (by decide +kernel)⟩
theorem lw_p71 : lw_okq (⟨"AlibiDealsModel", "usesClue", "(I)Z"⟩, 19) := ⟨⟨by decide +kernel, by decide +kernel⟩, List.mem_of_getElem? (i := 990) (by decide +kernel), List.mem_of_getElem? (i := 1347) (by decide +kernel), List.mem_of_getElem? (i := 1348) (by decide +kernel)⟩
theorem lw_p72 : lw_okq (⟨"AlibiDealsModel", "keeps", "(II)Z"⟩, 19) := ⟨⟨by decide +kernel, by decide +kernel⟩, List.mem_of_getElem? (i := 990) (by decide +kernel), List.mem_of_getElem? (i := 1351) (by decide +kernel), List.mem_of_getElem? (i := 1352) (by decide +kernel)⟩
theorem lw_p73 : lw_okq (⟨"AlibiDealsModel", "loses", "(II)Z"⟩, 19) := ⟨⟨by decide +kernel, by decide +kernel⟩, List.mem_of_getElem? (i := 990) (by decide +kernel), List.mem_of_getElem? (i := 1355) (by decide +kernel), List.mem_of_getElem? (i := 1356) (by decide +kernel)⟩
theorem lw_p74 : lw_okq (⟨"AlibiDealsModel", "counts", "(IIZ)I"⟩, 19) := ⟨⟨by decide +kernel, by decide +kernel⟩, List.mem_of_getElem? (i := 990) (by decide +kernel), List.mem_of_getElem? (i := 1359) (by decide +kernel), List.mem_of_getElem? (i := 1360) (by decide +kernel)⟩
theorem lw_p75 : lw_okq (⟨"AlibiDealsModel", "isOnly", "(II)Z"⟩, 19) := ⟨⟨by decide +kernel, by decide +kernel⟩, List.mem_of_getElem? (i := 990) (by decide +kernel), List.mem_of_getElem? (i := 1363) (by decide +kernel), List.mem_of_getElem? (i := 1364) (by decide +kernel)⟩
theorem lw_p76 : lw_okq (⟨"AlibiDealsModel", "mayLie", "(II)Z"⟩, 19) := ⟨⟨by decide +kernel, by decide +kernel⟩, List.mem_of_getElem? (i := 990) (by decide +kernel), List.mem_of_getElem? (i := 1367) (by decide +kernel), List.mem_of_getElem? (i := 1368) (by decide +kernel)⟩
theorem lw_p77 : lw_okq (⟨"AlibiDealsModel", "fixes", "(II)Z"⟩, 19) := ⟨⟨by decide +kernel, by decide +kernel⟩, List.mem_of_getElem? (i := 990) (by decide +kernel), List.mem_of_getElem? (i := 1371) (by decide +kernel), List.mem_of_getElem? (i := 1372) (by decide +kernel)⟩
theorem lw_p78 : lw_okq (⟨"AlibiDealsModel", "bars", "(II)Z"⟩, 19) := ⟨⟨by decide +kernel, by decide +kernel⟩, List.mem_of_getElem? (i := 990) (by decide +kernel), List.mem_of_getElem? (i := 1375) (by decide +kernel), List.mem_of_getElem? (i := 1376) (by decide +kernel)⟩
theorem lw_p79 : lw_okq (⟨"AlibiDealsModel", "usesKind", "(I)Z"⟩, 19) := ⟨⟨by decide +kernel, by decide +kernel⟩, List.mem_of_getElem? (i := 990) (by decide +kernel), List.mem_of_getElem? (i := 1379) (by decide +kernel), List.mem_of_getElem? (i := 1380) (by decide +kernel)⟩
def lw_privs_5 : List (MethodName × Nat) := [(⟨"AlibiDealsModel", "agreesAll", "(I)Z"⟩, 19), (⟨"AlibiDealsModel", "countsDeal", "(I)V"⟩, 19), (⟨"AlibiDealsModel", "tellsWith", "(II)I"⟩, 19), (⟨"AlibiDealsModel", "surveys", "()V"⟩, 19), (⟨"AlibiDealsModel", "certain", "(I)I"⟩, 19), (⟨"AlibiDealsModel", "certainMany", "()I"⟩, 19), (⟨"AlibiDealsModel", "rules", "()V"⟩, 19), (⟨"AlibiDealsModel", "usesClue", "(I)Z"⟩, 19), (⟨"AlibiDealsModel", "keeps", "(II)Z"⟩, 19), (⟨"AlibiDealsModel", "loses", "(II)Z"⟩, 19), (⟨"AlibiDealsModel", "counts", "(IIZ)I"⟩, 19), (⟨"AlibiDealsModel", "isOnly", "(II)Z"⟩, 19), (⟨"AlibiDealsModel", "mayLie", "(II)Z"⟩, 19), (⟨"AlibiDealsModel", "fixes", "(II)Z"⟩, 19), (⟨"AlibiDealsModel", "bars", "(II)Z"⟩, 19), (⟨"AlibiDealsModel", "usesKind", "(I)Z"⟩, 19)]
theorem lw_r5 : ∀ q ∈ lw_privs_5, lw_okq q := List.forall_mem_cons.mpr ⟨lw_p64, List.forall_mem_cons.mpr ⟨lw_p65, List.forall_mem_cons.mpr ⟨lw_p66, List.forall_mem_cons.mpr ⟨lw_p67, List.forall_mem_cons.mpr ⟨lw_p68, List.forall_mem_cons.mpr ⟨lw_p69, List.forall_mem_cons.mpr ⟨lw_p70, List.forall_mem_cons.mpr ⟨lw_p71, List.forall_mem_cons.mpr ⟨lw_p72, List.forall_mem_cons.mpr ⟨lw_p73, List.forall_mem_cons.mpr ⟨lw_p74, List.forall_mem_cons.mpr ⟨lw_p75, List.forall_mem_cons.mpr ⟨lw_p76, List.forall_mem_cons.mpr ⟨lw_p77, List.forall_mem_cons.mpr ⟨lw_p78, List.forall_mem_cons.mpr ⟨lw_p79, fun _ h => absurd h List.not_mem_nil⟩⟩⟩⟩⟩⟩⟩⟩⟩⟩⟩⟩⟩⟩⟩⟩
theorem lw_p80 : lw_okq (⟨"AlibiDealsModel", "usesPlayer", "(I)Z"⟩, 19) := ⟨⟨by decide +kernel, by decide +kernel⟩, List.mem_of_getElem? (i := 990) (by decide +kernel), List.mem_of_getElem? (i := 1383) (by decide +kernel), List.mem_of_getElem? (i := 1384) (by decide +kernel)⟩
theorem lw_p81 : lw_okq (⟨"AlibiDealsModel", "breaksDown", "()Z"⟩, 19) := ⟨⟨by decide +kernel, by decide +kernel⟩, List.mem_of_getElem? (i := 990) (by decide +kernel), List.mem_of_getElem? (i := 1387) (by decide +kernel), List.mem_of_getElem? (i := 1388) (by decide +kernel)⟩
theorem lw_p82 : lw_okq (⟨"AlibiDealsModel", "only", "(I)I"⟩, 19) := ⟨⟨by decide +kernel, by decide +kernel⟩, List.mem_of_getElem? (i := 990) (by decide +kernel), List.mem_of_getElem? (i := 1399) (by decide +kernel), List.mem_of_getElem? (i := 1400) (by decide +kernel)⟩
theorem lw_p83 : lw_okq (⟨"AlibiDealsModel", "crossedMany", "()I"⟩, 19) := ⟨⟨by decide +kernel, by decide +kernel⟩, List.mem_of_getElem? (i := 990) (by decide +kernel), List.mem_of_getElem? (i := 1407) (by decide +kernel), List.mem_of_getElem? (i := 1408) (by decide +kernel)⟩
theorem lw_p84 : lw_okq (⟨"AlibiDealsModel", "hidden", "()I"⟩, 19) := ⟨⟨by decide +kernel, by decide +kernel⟩, List.mem_of_getElem? (i := 990) (by decide +kernel), List.mem_of_getElem? (i := 1415) (by decide +kernel), List.mem_of_getElem? (i := 1416) (by decide +kernel)⟩
theorem lw_p85 : lw_okq (⟨"AlibiDealsModel", "mayMany", "()I"⟩, 19) := ⟨⟨by decide +kernel, by decide +kernel⟩, List.mem_of_getElem? (i := 990) (by decide +kernel), List.mem_of_getElem? (i := 1419) (by decide +kernel), List.mem_of_getElem? (i := 1420) (by decide +kernel)⟩
theorem lw_p86 : lw_okq (⟨"AlibiDealsModel", "envelopeMany", "()I"⟩, 19) := ⟨⟨by decide +kernel, by decide +kernel⟩, List.mem_of_getElem? (i := 990) (by decide +kernel), List.mem_of_getElem? (i := 1434) (by decide +kernel), List.mem_of_getElem? (i := 1435) (by decide +kernel)⟩
theorem lw_p87 : lw_okq (⟨"AlibiDealsModel", "bestIn", "()I"⟩, 19) := ⟨⟨by decide +kernel, by decide +kernel⟩, List.mem_of_getElem? (i := 990) (by decide +kernel), List.mem_of_getElem? (i := 1442) (by decide +kernel), List.mem_of_getElem? (i := 1443) (by decide +kernel)⟩
theorem lw_p88 : lw_okq (⟨"AlibiDealsModel", "barsAsked", "(II)I"⟩, 19) := ⟨⟨by decide +kernel, by decide +kernel⟩, List.mem_of_getElem? (i := 990) (by decide +kernel), List.mem_of_getElem? (i := 1454) (by decide +kernel), List.mem_of_getElem? (i := 1455) (by decide +kernel)⟩
theorem lw_p89 : lw_okq (⟨"AlibiDealsModel", "leaves", "(II)I"⟩, 19) := ⟨⟨by decide +kernel, by decide +kernel⟩, List.mem_of_getElem? (i := 990) (by decide +kernel), List.mem_of_getElem? (i := 1462) (by decide +kernel), List.mem_of_getElem? (i := 1463) (by decide +kernel)⟩
theorem lw_p90 : lw_okq (⟨"AlibiDealsModel", "bestFor", "(I)I"⟩, 19) := ⟨⟨by decide +kernel, by decide +kernel⟩, List.mem_of_getElem? (i := 990) (by decide +kernel), List.mem_of_getElem? (i := 1470) (by decide +kernel), List.mem_of_getElem? (i := 1471) (by decide +kernel)⟩
theorem lw_p91 : lw_okq (⟨"AlibiDealsModel", "idleMany", "()I"⟩, 19) := ⟨⟨by decide +kernel, by decide +kernel⟩, List.mem_of_getElem? (i := 990) (by decide +kernel), List.mem_of_getElem? (i := 1482) (by decide +kernel), List.mem_of_getElem? (i := 1483) (by decide +kernel)⟩
theorem lw_p92 : lw_okq (⟨"AlibiDealsModel", "chanceNow", "()D"⟩, 19) := ⟨⟨by decide +kernel, by decide +kernel⟩, List.mem_of_getElem? (i := 990) (by decide +kernel), List.mem_of_getElem? (i := 1490) (by decide +kernel), List.mem_of_getElem? (i := 1491) (by decide +kernel)⟩
theorem lw_p93 : lw_okq (⟨"AlibiDealsModel", "digestAll", "(J)J"⟩, 19) := ⟨⟨by decide +kernel, by decide +kernel⟩, List.mem_of_getElem? (i := 990) (by decide +kernel), List.mem_of_getElem? (i := 1499) (by decide +kernel), List.mem_of_getElem? (i := 1500) (by decide +kernel)⟩
theorem lw_p94 : lw_okq (⟨"AlibiDealsModel", "digestClues", "(J)J"⟩, 19) := ⟨⟨by decide +kernel, by decide +kernel⟩, List.mem_of_getElem? (i := 990) (by decide +kernel), List.mem_of_getElem? (i := 1504) (by decide +kernel), List.mem_of_getElem? (i := 1505) (by decide +kernel)⟩
theorem lw_p95 : lw_okq (⟨"AlibiDealsModel", "digestCards", "(J)J"⟩, 19) := ⟨⟨by decide +kernel, by decide +kernel⟩, List.mem_of_getElem? (i := 990) (by decide +kernel), List.mem_of_getElem? (i := 1508) (by decide +kernel), List.mem_of_getElem? (i := 1509) (by decide +kernel)⟩
def lw_privs_6 : List (MethodName × Nat) := [(⟨"AlibiDealsModel", "usesPlayer", "(I)Z"⟩, 19), (⟨"AlibiDealsModel", "breaksDown", "()Z"⟩, 19), (⟨"AlibiDealsModel", "only", "(I)I"⟩, 19), (⟨"AlibiDealsModel", "crossedMany", "()I"⟩, 19), (⟨"AlibiDealsModel", "hidden", "()I"⟩, 19), (⟨"AlibiDealsModel", "mayMany", "()I"⟩, 19), (⟨"AlibiDealsModel", "envelopeMany", "()I"⟩, 19), (⟨"AlibiDealsModel", "bestIn", "()I"⟩, 19), (⟨"AlibiDealsModel", "barsAsked", "(II)I"⟩, 19), (⟨"AlibiDealsModel", "leaves", "(II)I"⟩, 19), (⟨"AlibiDealsModel", "bestFor", "(I)I"⟩, 19), (⟨"AlibiDealsModel", "idleMany", "()I"⟩, 19), (⟨"AlibiDealsModel", "chanceNow", "()D"⟩, 19), (⟨"AlibiDealsModel", "digestAll", "(J)J"⟩, 19), (⟨"AlibiDealsModel", "digestClues", "(J)J"⟩, 19), (⟨"AlibiDealsModel", "digestCards", "(J)J"⟩, 19)]
theorem lw_r6 : ∀ q ∈ lw_privs_6, lw_okq q := List.forall_mem_cons.mpr ⟨lw_p80, List.forall_mem_cons.mpr ⟨lw_p81, List.forall_mem_cons.mpr ⟨lw_p82, List.forall_mem_cons.mpr ⟨lw_p83, List.forall_mem_cons.mpr ⟨lw_p84, List.forall_mem_cons.mpr ⟨lw_p85, List.forall_mem_cons.mpr ⟨lw_p86, List.forall_mem_cons.mpr ⟨lw_p87, List.forall_mem_cons.mpr ⟨lw_p88, List.forall_mem_cons.mpr ⟨lw_p89, List.forall_mem_cons.mpr ⟨lw_p90, List.forall_mem_cons.mpr ⟨lw_p91, List.forall_mem_cons.mpr ⟨lw_p92, List.forall_mem_cons.mpr ⟨lw_p93, List.forall_mem_cons.mpr ⟨lw_p94, List.forall_mem_cons.mpr ⟨lw_p95, fun _ h => absurd h List.not_mem_nil⟩⟩⟩⟩⟩⟩⟩⟩⟩⟩⟩⟩⟩⟩⟩⟩
def lw_privs : List (MethodName × Nat) := lw_privs_1 ++ (lw_privs_2 ++ (lw_privs_3 ++ (lw_privs_4 ++ (lw_privs_5 ++ (lw_privs_6)))))
def lw_tbl : List Cond := k2_sels lw_privs ++ tables_1
theorem lw_privs_ok : ∀ q ∈ lw_privs, lw_okq q := by
  show ∀ q ∈ lw_privs_1 ++ (lw_privs_2 ++ (lw_privs_3 ++ (lw_privs_4 ++ (lw_privs_5 ++ (lw_privs_6))))), lw_okq q
  exact List.forall_mem_append.mpr ⟨lw_r1, List.forall_mem_append.mpr ⟨lw_r2, List.forall_mem_append.mpr ⟨lw_r3, List.forall_mem_append.mpr ⟨lw_r4, List.forall_mem_append.mpr ⟨lw_r5, lw_r6⟩⟩⟩⟩⟩
/-- the streams that the claim lets the run draw from -/
abbrev lw_cs : List Choice := [Jvm.Choice.named "NaN.bits"]
theorem lw_bits : nanBits ∈ lw_cs := by first | decide | exact List.mem_cons_self | simp [lw_cs, nanBits]
-- ===== end of PART A; then your names; then what follows =====
/-! names: out of the printed NAMES (a text of the program itself) -/
def RX0 : String := "AlibiDeals$DealCount"
def TX0 : u_T := fun k => match k with
  | 0 => ("AlibiDeals$DealCount", "total", "I", false)
  | 1 => ("AlibiDeals$DealCount", "fresh", "Z", false)
  | 2 => ("AlibiDeals$DealCount", "cardAt", "[I", true)
  | 3 => ("AlibiDeals$DealCount", "inEnvelope", "[I", true)
  | 4 => ("AlibiDeals$DealCount", "withHand", "[I", true)
  | 5 => ("AlibiDeals$DealCount", "hinderedBy", "[I", true)
  | _ => ("AlibiDeals$DealCount", "some", "[I", true)
def tyX0 : Nat → FieldType := fun k => match k with
  | 0 => .int
  | 1 => .boolean
  | 2 => .array .int
  | 3 => .array .int
  | 4 => .array .int
  | 5 => .array .int
  | _ => .array .int
abbrev wsX00 : List Cond := u_ws RX0 TX0 7
theorem nmX0 : ∀ a, a < 7 → ∀ b, b < 7 → a ≠ b → (TX0 a).2.1 ≠ (TX0 b).2.1 := by decide +kernel
theorem tyX0_ok : ∀ k, k < 7 → parseFieldDescriptor (TX0 k).2.2.1 = some (tyX0 k) := by decide +kernel
abbrev cX0_init : ByteArray := prog_2_method_1_code
def yX0_init : MethodName := ⟨RX0, "<init>", "()V"⟩
abbrev cX0_count : ByteArray := prog_2_method_2_code
def yX0_count : MethodName := ⟨RX0, "count", "(LAlibiDeals$State;)V"⟩
abbrev cX0_clear : ByteArray := prog_2_method_3_code
def yX0_clear : MethodName := ⟨RX0, "clear", "([I)V"⟩
abbrev cX0_dealFrom : ByteArray := prog_2_method_4_code
def yX0_dealFrom : MethodName := ⟨RX0, "dealFrom", "(IILAlibiDeals$DealCount;LAlibiDeals$State;)V"⟩
abbrev cX0_hasRoom : ByteArray := prog_2_method_5_code
def yX0_hasRoom : MethodName := ⟨RX0, "hasRoom", "(II)Z"⟩
abbrev cX0_judge : ByteArray := prog_2_method_6_code
def yX0_judge : MethodName := ⟨RX0, "judge", "(ILAlibiDeals$State;)V"⟩
abbrev cX0_include : ByteArray := prog_2_method_7_code
def yX0_include : MethodName := ⟨RX0, "include", "(I)V"⟩
abbrev cX0_withCardAt : ByteArray := prog_2_method_8_code
def yX0_withCardAt : MethodName := ⟨RX0, "withCardAt", "(II)I"⟩
abbrev cX0_surePlace : ByteArray := prog_2_method_9_code
def yX0_surePlace : MethodName := ⟨RX0, "surePlace", "(I)I"⟩
abbrev cX0_sureCards : ByteArray := prog_2_method_10_code
def yX0_sureCards : MethodName := ⟨RX0, "sureCards", "()I"⟩
abbrev cX0_placesLeft : ByteArray := prog_2_method_11_code
def yX0_placesLeft : MethodName := ⟨RX0, "placesLeft", "()I"⟩
abbrev cX0_withEnvelope : ByteArray := prog_2_method_12_code
def yX0_withEnvelope : MethodName := ⟨RX0, "withEnvelope", "(I)I"⟩
abbrev cX0_envelopesLeft : ByteArray := prog_2_method_13_code
def yX0_envelopesLeft : MethodName := ⟨RX0, "envelopesLeft", "()I"⟩
abbrev cX0_likeliestEnvelope : ByteArray := prog_2_method_14_code
def yX0_likeliestEnvelope : MethodName := ⟨RX0, "likeliestEnvelope", "()I"⟩
abbrev cX0_shareOfLikeliest : ByteArray := prog_2_method_15_code
def yX0_shareOfLikeliest : MethodName := ⟨RX0, "shareOfLikeliest", "()D"⟩
abbrev cX0_withNone : ByteArray := prog_2_method_16_code
def yX0_withNone : MethodName := ⟨RX0, "withNone", "(II)I"⟩
abbrev cX0_behindQuestion : ByteArray := prog_2_method_17_code
def yX0_behindQuestion : MethodName := ⟨RX0, "behindQuestion", "(II)I"⟩
abbrev cX0_sharpestQuestion : ByteArray := prog_2_method_18_code
def yX0_sharpestQuestion : MethodName := ⟨RX0, "sharpestQuestion", "(I)I"⟩
abbrev cX0_withoutClue : ByteArray := prog_2_method_19_code
def yX0_withoutClue : MethodName := ⟨RX0, "withoutClue", "(I)I"⟩
abbrev cX0_idleAmong : ByteArray := prog_2_method_20_code
def yX0_idleAmong : MethodName := ⟨RX0, "idleAmong", "(I)I"⟩
def RX1 : String := "AlibiDeals$HandCount"
def TX1 : u_T := fun k => match k with
  | 0 => ("AlibiDeals$HandCount", "total", "I", false)
  | 1 => ("AlibiDeals$HandCount", "fresh", "Z", false)
  | _ => ("AlibiDeals$HandCount", "some", "[I", true)
def tyX1 : Nat → FieldType := fun k => match k with
  | 0 => .int
  | 1 => .boolean
  | _ => .array .int
abbrev wsX10 : List Cond := u_ws RX1 TX1 3
theorem nmX1 : ∀ a, a < 3 → ∀ b, b < 3 → a ≠ b → (TX1 a).2.1 ≠ (TX1 b).2.1 := by decide +kernel
theorem tyX1_ok : ∀ k, k < 3 → parseFieldDescriptor (TX1 k).2.2.1 = some (tyX1 k) := by decide +kernel
abbrev cX1_init : ByteArray := prog_3_method_1_code
def yX1_init : MethodName := ⟨RX1, "<init>", "()V"⟩
abbrev cX1_count : ByteArray := prog_3_method_2_code
def yX1_count : MethodName := ⟨RX1, "count", "(LAlibiDeals$State;)V"⟩
abbrev cX1_countHands : ByteArray := prog_3_method_3_code
def yX1_countHands : MethodName := ⟨RX1, "countHands", "(IILAlibiDeals$HandCount;LAlibiDeals$State;)I"⟩
def RX2 : String := "AlibiDeals$RuleSheet"
def TX2 : u_T := fun k => match k with
  | 0 => ("AlibiDeals$RuleSheet", "broken", "Z", false)
  | 1 => ("AlibiDeals$RuleSheet", "fresh", "Z", false)
  | _ => ("AlibiDeals$RuleSheet", "places", "[I", true)
def tyX2 : Nat → FieldType := fun k => match k with
  | 0 => .boolean
  | 1 => .boolean
  | _ => .array .int
abbrev wsX20 : List Cond := u_ws RX2 TX2 3
theorem nmX2 : ∀ a, a < 3 → ∀ b, b < 3 → a ≠ b → (TX2 a).2.1 ≠ (TX2 b).2.1 := by decide +kernel
theorem tyX2_ok : ∀ k, k < 3 → parseFieldDescriptor (TX2 k).2.2.1 = some (tyX2 k) := by decide +kernel
abbrev cX2_init : ByteArray := prog_4_method_1_code
def yX2_init : MethodName := ⟨RX2, "<init>", "()V"⟩
abbrev cX2_fill : ByteArray := prog_4_method_2_code
def yX2_fill : MethodName := ⟨RX2, "fill", "(LAlibiDeals$State;)V"⟩
abbrev cX2_setAll : ByteArray := prog_4_method_3_code
def yX2_setAll : MethodName := ⟨RX2, "setAll", "(I)V"⟩
abbrev cX2_placesLeft : ByteArray := prog_4_method_4_code
def yX2_placesLeft : MethodName := ⟨RX2, "placesLeft", "()I"⟩
abbrev cX2_has : ByteArray := prog_4_method_5_code
def yX2_has : MethodName := ⟨RX2, "has", "(II)Z"⟩
abbrev cX2_onlyPlace : ByteArray := prog_4_method_6_code
def yX2_onlyPlace : MethodName := ⟨RX2, "onlyPlace", "(I)I"⟩
abbrev cX2_applyClues : ByteArray := prog_4_method_7_code
def yX2_applyClues : MethodName := ⟨RX2, "applyClues", "(LAlibiDeals$State;)V"⟩
abbrev cX2_applyClue : ByteArray := prog_4_method_8_code
def yX2_applyClue : MethodName := ⟨RX2, "applyClue", "(III)V"⟩
abbrev cX2_applyKinds : ByteArray := prog_4_method_9_code
def yX2_applyKinds : MethodName := ⟨RX2, "applyKinds", "()V"⟩
abbrev cX2_applyPlayers : ByteArray := prog_4_method_10_code
def yX2_applyPlayers : MethodName := ⟨RX2, "applyPlayers", "()V"⟩
abbrev cX2_crossIfSure : ByteArray := prog_4_method_11_code
def yX2_crossIfSure : MethodName := ⟨RX2, "crossIfSure", "(III)V"⟩
abbrev cX2_keepIfJust : ByteArray := prog_4_method_12_code
def yX2_keepIfJust : MethodName := ⟨RX2, "keepIfJust", "(III)V"⟩
abbrev cX2_keepOnly : ByteArray := prog_4_method_13_code
def yX2_keepOnly : MethodName := ⟨RX2, "keepOnly", "(II)V"⟩
abbrev cX2_crossOff : ByteArray := prog_4_method_14_code
def yX2_crossOff : MethodName := ⟨RX2, "crossOff", "(II)V"⟩
abbrev cX2_withPlace : ByteArray := prog_4_method_15_code
def yX2_withPlace : MethodName := ⟨RX2, "withPlace", "(II)I"⟩
abbrev cX2_withOnly : ByteArray := prog_4_method_16_code
def yX2_withOnly : MethodName := ⟨RX2, "withOnly", "(II)I"⟩
abbrev cX2_breaksDown : ByteArray := prog_4_method_17_code
def yX2_breaksDown : MethodName := ⟨RX2, "breaksDown", "()Z"⟩
abbrev cX2_fits : ByteArray := prog_4_method_18_code
def yX2_fits : MethodName := ⟨RX2, "fits", "(III)Z"⟩
abbrev cX2_breaksClue : ByteArray := prog_4_method_19_code
def yX2_breaksClue : MethodName := ⟨RX2, "breaksClue", "(LAlibiDeals$State;)Z"⟩
def RX3 : String := "AlibiDeals$State"
def TX3 : u_T := fun k => match k with
  | 0 => ("AlibiDeals$State", "deal", "[I", true)
  | 1 => ("AlibiDeals$State", "kind", "[I", true)
  | 2 => ("AlibiDeals$State", "place", "[I", true)
  | 3 => ("AlibiDeals$State", "cards", "[I", true)
  | 4 => ("AlibiDeals$State", "count", "I", false)
  | 5 => ("AlibiDeals$State", "part", "I", false)
  | _ => ("AlibiDeals$State", "why", "I", false)
def tyX3 : Nat → FieldType := fun k => match k with
  | 0 => .array .int
  | 1 => .array .int
  | 2 => .array .int
  | 3 => .array .int
  | 4 => .int
  | 5 => .int
  | _ => .int
abbrev wsX30 : List Cond := u_ws RX3 TX3 7
theorem nmX3 : ∀ a, a < 7 → ∀ b, b < 7 → a ≠ b → (TX3 a).2.1 ≠ (TX3 b).2.1 := by decide +kernel
theorem tyX3_ok : ∀ k, k < 7 → parseFieldDescriptor (TX3 k).2.2.1 = some (tyX3 k) := by decide +kernel
abbrev cX3_init : ByteArray := prog_5_method_1_code
def yX3_init : MethodName := ⟨RX3, "<init>", "()V"⟩
abbrev cX3_dealAtFirst : ByteArray := prog_5_method_2_code
def yX3_dealAtFirst : MethodName := ⟨RX3, "dealAtFirst", "()V"⟩
abbrev cX3_copyFrom : ByteArray := prog_5_method_3_code
def yX3_copyFrom : MethodName := ⟨RX3, "copyFrom", "(LAlibiDeals$State;)V"⟩
abbrev cX3_add : ByteArray := prog_5_method_4_code
def yX3_add : MethodName := ⟨RX3, "add", "(III)V"⟩
abbrev cX3_remove : ByteArray := prog_5_method_5_code
def yX3_remove : MethodName := ⟨RX3, "remove", "(I)V"⟩
abbrev cX3_addAnswer : ByteArray := prog_5_method_6_code
def yX3_addAnswer : MethodName := ⟨RX3, "addAnswer", "(II)Z"⟩
abbrev cX3_addSight : ByteArray := prog_5_method_7_code
def yX3_addSight : MethodName := ⟨RX3, "addSight", "(II)I"⟩
abbrev cX3_addVerdict : ByteArray := prog_5_method_8_code
def yX3_addVerdict : MethodName := ⟨RX3, "addVerdict", "(I)Z"⟩
abbrev cX3_handOf : ByteArray := prog_5_method_9_code
def yX3_handOf : MethodName := ⟨RX3, "handOf", "(II)I"⟩
abbrev cX3_placeOf : ByteArray := prog_5_method_10_code
def yX3_placeOf : MethodName := ⟨RX3, "placeOf", "(I)I"⟩
abbrev cX3_agrees : ByteArray := prog_5_method_11_code
def yX3_agrees : MethodName := ⟨RX3, "agrees", "(I[I)Z"⟩
abbrev cX3_agreesWithAll : ByteArray := prog_5_method_12_code
def yX3_agreesWithAll : MethodName := ⟨RX3, "agreesWithAll", "([I)Z"⟩
def RX4 : String := "AlibiDeals$TextReader"
def TX4 : u_T := fun k => match k with
  | 0 => ("AlibiDeals$TextReader", "letter", "I", false)
  | 1 => ("AlibiDeals$TextReader", "player", "I", false)
  | 2 => ("AlibiDeals$TextReader", "number", "I", false)
  | _ => ("AlibiDeals$TextReader", "step", "I", false)
def tyX4 : Nat → FieldType := fun k => match k with
  | 0 => .int
  | 1 => .int
  | 2 => .int
  | _ => .int
abbrev wsX40 : List Cond := u_ws RX4 TX4 4
theorem nmX4 : ∀ a, a < 4 → ∀ b, b < 4 → a ≠ b → (TX4 a).2.1 ≠ (TX4 b).2.1 := by decide +kernel
theorem tyX4_ok : ∀ k, k < 4 → parseFieldDescriptor (TX4 k).2.2.1 = some (tyX4 k) := by decide +kernel
abbrev cX4_init : ByteArray := prog_6_method_1_code
def yX4_init : MethodName := ⟨RX4, "<init>", "()V"⟩
abbrev cX4_begin : ByteArray := prog_6_method_2_code
def yX4_begin : MethodName := ⟨RX4, "begin", "()V"⟩
abbrev cX4_mayEnd : ByteArray := prog_6_method_3_code
def yX4_mayEnd : MethodName := ⟨RX4, "mayEnd", "()Z"⟩
abbrev cX4_take : ByteArray := prog_6_method_4_code
def yX4_take : MethodName := ⟨RX4, "take", "(I)Z"⟩
abbrev cX4_takeLetter : ByteArray := prog_6_method_5_code
def yX4_takeLetter : MethodName := ⟨RX4, "takeLetter", "(I)Z"⟩
abbrev cX4_takePlayer : ByteArray := prog_6_method_6_code
def yX4_takePlayer : MethodName := ⟨RX4, "takePlayer", "(I)Z"⟩
abbrev cX4_takeFirstDigit : ByteArray := prog_6_method_7_code
def yX4_takeFirstDigit : MethodName := ⟨RX4, "takeFirstDigit", "(I)Z"⟩
abbrev cX4_takeMore : ByteArray := prog_6_method_8_code
def yX4_takeMore : MethodName := ⟨RX4, "takeMore", "(I)Z"⟩
abbrev cX4_isDigit : ByteArray := prog_6_method_9_code
def yX4_isDigit : MethodName := ⟨RX4, "isDigit", "(I)Z"⟩
abbrev cX4_namesPlayer : ByteArray := prog_6_method_10_code
def yX4_namesPlayer : MethodName := ⟨RX4, "namesPlayer", "(I)Z"⟩
abbrev cX4_limitOf : ByteArray := prog_6_method_11_code
def yX4_limitOf : MethodName := ⟨RX4, "limitOf", "(I)I"⟩
def RX5 : String := "AlibiDeals"
def TX5 : u_T := fun k => match k with
  | 0 => ("AlibiDeals", "now", "LAlibiDeals$State;", true)
  | 1 => ("AlibiDeals", "snapshot", "LAlibiDeals$State;", true)
  | 2 => ("AlibiDeals", "saved", "[LAlibiDeals$State;", true)
  | 3 => ("AlibiDeals", "buffer", "[I", true)
  | 4 => ("AlibiDeals", "reader", "LAlibiDeals$TextReader;", true)
  | 5 => ("AlibiDeals", "dealCount", "LAlibiDeals$DealCount;", true)
  | 6 => ("AlibiDeals", "handCount", "LAlibiDeals$HandCount;", true)
  | 7 => ("AlibiDeals", "ruleSheet", "LAlibiDeals$RuleSheet;", true)
  | 8 => ("AlibiDeals", "savedCount", "I", false)
  | 9 => ("AlibiDeals", "hasSnapshot", "Z", false)
  | _ => ("AlibiDeals", "length", "I", false)
def tyX5 : Nat → FieldType := fun k => match k with
  | 0 => .object "AlibiDeals$State"
  | 1 => .object "AlibiDeals$State"
  | 2 => .array (.object "AlibiDeals$State")
  | 3 => .array .int
  | 4 => .object "AlibiDeals$TextReader"
  | 5 => .object "AlibiDeals$DealCount"
  | 6 => .object "AlibiDeals$HandCount"
  | 7 => .object "AlibiDeals$RuleSheet"
  | 8 => .int
  | 9 => .boolean
  | _ => .int
abbrev wsX50 : List Cond := u_ws RX5 TX5 11
theorem nmX5 : ∀ a, a < 11 → ∀ b, b < 11 → a ≠ b → (TX5 a).2.1 ≠ (TX5 b).2.1 := by decide +kernel
theorem tyX5_ok : ∀ k, k < 11 → parseFieldDescriptor (TX5 k).2.2.1 = some (tyX5 k) := by decide +kernel
abbrev cX5_init : ByteArray := prog_1_method_1_code
def yX5_init : MethodName := ⟨RX5, "<init>", "()V"⟩
abbrev cX5_exchange : ByteArray := prog_1_method_2_code
def yX5_exchange : MethodName := ⟨RX5, "exchange", "(II)I"⟩
abbrev cX5_noteHas : ByteArray := prog_1_method_3_code
def yX5_noteHas : MethodName := ⟨RX5, "noteHas", "(II)I"⟩
abbrev cX5_noteLacks : ByteArray := prog_1_method_4_code
def yX5_noteLacks : MethodName := ⟨RX5, "noteLacks", "(II)I"⟩
abbrev cX5_noteShows : ByteArray := prog_1_method_5_code
def yX5_noteShows : MethodName := ⟨RX5, "noteShows", "(IIII)I"⟩
abbrev cX5_dropClue : ByteArray := prog_1_method_6_code
def yX5_dropClue : MethodName := ⟨RX5, "dropClue", "(I)I"⟩
abbrev cX5_dropAll : ByteArray := prog_1_method_7_code
def yX5_dropAll : MethodName := ⟨RX5, "dropAll", "()I"⟩
abbrev cX5_ask : ByteArray := prog_1_method_8_code
def yX5_ask : MethodName := ⟨RX5, "ask", "(IIII)Z"⟩
abbrev cX5_look : ByteArray := prog_1_method_9_code
def yX5_look : MethodName := ⟨RX5, "look", "(IIII)I"⟩
abbrev cX5_accuse : ByteArray := prog_1_method_10_code
def yX5_accuse : MethodName := ⟨RX5, "accuse", "(III)Z"⟩
abbrev cX5_append : ByteArray := prog_1_method_11_code
def yX5_append : MethodName := ⟨RX5, "append", "(I)I"⟩
abbrev cX5_clearBuffer : ByteArray := prog_1_method_12_code
def yX5_clearBuffer : MethodName := ⟨RX5, "clearBuffer", "()I"⟩
abbrev cX5_firstError : ByteArray := prog_1_method_13_code
def yX5_firstError : MethodName := ⟨RX5, "firstError", "()I"⟩
abbrev cX5_work : ByteArray := prog_1_method_14_code
def yX5_work : MethodName := ⟨RX5, "work", "()I"⟩
abbrev cX5_hasStopped : ByteArray := prog_1_method_15_code
def yX5_hasStopped : MethodName := ⟨RX5, "hasStopped", "()Z"⟩
abbrev cX5_stoppedPart : ByteArray := prog_1_method_16_code
def yX5_stoppedPart : MethodName := ⟨RX5, "stoppedPart", "()I"⟩
abbrev cX5_whyStopped : ByteArray := prog_1_method_17_code
def yX5_whyStopped : MethodName := ⟨RX5, "whyStopped", "()I"⟩
abbrev cX5_undo : ByteArray := prog_1_method_18_code
def yX5_undo : MethodName := ⟨RX5, "undo", "()I"⟩
abbrev cX5_keep : ByteArray := prog_1_method_19_code
def yX5_keep : MethodName := ⟨RX5, "keep", "()I"⟩
abbrev cX5_restore : ByteArray := prog_1_method_20_code
def yX5_restore : MethodName := ⟨RX5, "restore", "()I"⟩
abbrev cX5_savedStates : ByteArray := prog_1_method_21_code
def yX5_savedStates : MethodName := ⟨RX5, "savedStates", "()I"⟩
abbrev cX5_truePlace : ByteArray := prog_1_method_22_code
def yX5_truePlace : MethodName := ⟨RX5, "truePlace", "(I)I"⟩
abbrev cX5_trueEnvelope : ByteArray := prog_1_method_23_code
def yX5_trueEnvelope : MethodName := ⟨RX5, "trueEnvelope", "()I"⟩
abbrev cX5_clues : ByteArray := prog_1_method_24_code
def yX5_clues : MethodName := ⟨RX5, "clues", "()I"⟩
abbrev cX5_kindOf : ByteArray := prog_1_method_25_code
def yX5_kindOf : MethodName := ⟨RX5, "kindOf", "(I)I"⟩
abbrev cX5_playerOf : ByteArray := prog_1_method_26_code
def yX5_playerOf : MethodName := ⟨RX5, "playerOf", "(I)I"⟩
abbrev cX5_cardsOf : ByteArray := prog_1_method_27_code
def yX5_cardsOf : MethodName := ⟨RX5, "cardsOf", "(I)I"⟩
abbrev cX5_isTrue : ByteArray := prog_1_method_28_code
def yX5_isTrue : MethodName := ⟨RX5, "isTrue", "(I)Z"⟩
abbrev cX5_untrueClues : ByteArray := prog_1_method_29_code
def yX5_untrueClues : MethodName := ⟨RX5, "untrueClues", "()I"⟩
abbrev cX5_deals : ByteArray := prog_1_method_30_code
def yX5_deals : MethodName := ⟨RX5, "deals", "()I"⟩
abbrev cX5_dealsByHands : ByteArray := prog_1_method_31_code
def yX5_dealsByHands : MethodName := ⟨RX5, "dealsByHands", "()I"⟩
abbrev cX5_dealsWith : ByteArray := prog_1_method_32_code
def yX5_dealsWith : MethodName := ⟨RX5, "dealsWith", "(II)I"⟩
abbrev cX5_mayBe : ByteArray := prog_1_method_33_code
def yX5_mayBe : MethodName := ⟨RX5, "mayBe", "(II)Z"⟩
abbrev cX5_certainPlace : ByteArray := prog_1_method_34_code
def yX5_certainPlace : MethodName := ⟨RX5, "certainPlace", "(I)I"⟩
abbrev cX5_certainCards : ByteArray := prog_1_method_35_code
def yX5_certainCards : MethodName := ⟨RX5, "certainCards", "()I"⟩
abbrev cX5_isBroken : ByteArray := prog_1_method_36_code
def yX5_isBroken : MethodName := ⟨RX5, "isBroken", "()Z"⟩
abbrev cX5_mayBeByRules : ByteArray := prog_1_method_37_code
def yX5_mayBeByRules : MethodName := ⟨RX5, "mayBeByRules", "(II)Z"⟩
abbrev cX5_placeByRules : ByteArray := prog_1_method_38_code
def yX5_placeByRules : MethodName := ⟨RX5, "placeByRules", "(I)I"⟩
abbrev cX5_crossedOff : ByteArray := prog_1_method_39_code
def yX5_crossedOff : MethodName := ⟨RX5, "crossedOff", "()I"⟩
abbrev cX5_hiddenCrosses : ByteArray := prog_1_method_40_code
def yX5_hiddenCrosses : MethodName := ⟨RX5, "hiddenCrosses", "()I"⟩
abbrev cX5_envelopeDeals : ByteArray := prog_1_method_41_code
def yX5_envelopeDeals : MethodName := ⟨RX5, "envelopeDeals", "(I)I"⟩
abbrev cX5_envelopes : ByteArray := prog_1_method_42_code
def yX5_envelopes : MethodName := ⟨RX5, "envelopes", "()I"⟩
abbrev cX5_bestAccusation : ByteArray := prog_1_method_43_code
def yX5_bestAccusation : MethodName := ⟨RX5, "bestAccusation", "()I"⟩
abbrev cX5_isSolved : ByteArray := prog_1_method_44_code
def yX5_isSolved : MethodName := ⟨RX5, "isSolved", "()Z"⟩
abbrev cX5_dealsIfPassed : ByteArray := prog_1_method_45_code
def yX5_dealsIfPassed : MethodName := ⟨RX5, "dealsIfPassed", "(II)I"⟩
abbrev cX5_leftBy : ByteArray := prog_1_method_46_code
def yX5_leftBy : MethodName := ⟨RX5, "leftBy", "(II)I"⟩
abbrev cX5_bestQuestion : ByteArray := prog_1_method_47_code
def yX5_bestQuestion : MethodName := ⟨RX5, "bestQuestion", "(I)I"⟩
abbrev cX5_dealsWithout : ByteArray := prog_1_method_48_code
def yX5_dealsWithout : MethodName := ⟨RX5, "dealsWithout", "(I)I"⟩
abbrev cX5_idleClues : ByteArray := prog_1_method_49_code
def yX5_idleClues : MethodName := ⟨RX5, "idleClues", "()I"⟩
abbrev cX5_chance : ByteArray := prog_1_method_50_code
def yX5_chance : MethodName := ⟨RX5, "chance", "()D"⟩
abbrev cX5_digest : ByteArray := prog_1_method_51_code
def yX5_digest : MethodName := ⟨RX5, "digest", "()J"⟩
abbrev cX5_mix : ByteArray := prog_1_method_52_code
def yX5_mix : MethodName := ⟨RX5, "mix", "(JJ)J"⟩
abbrev cX5_mixFlag : ByteArray := prog_1_method_53_code
def yX5_mixFlag : MethodName := ⟨RX5, "mixFlag", "(JZ)J"⟩
abbrev cX5_mixCounts : ByteArray := prog_1_method_54_code
def yX5_mixCounts : MethodName := ⟨RX5, "mixCounts", "(JLAlibiDeals$DealCount;LAlibiDeals$RuleSheet;)J"⟩
abbrev cX5_mixBest : ByteArray := prog_1_method_55_code
def yX5_mixBest : MethodName := ⟨RX5, "mixBest", "(JLAlibiDeals$DealCount;)J"⟩
abbrev cX5_mixClues : ByteArray := prog_1_method_56_code
def yX5_mixClues : MethodName := ⟨RX5, "mixClues", "(JLAlibiDeals$DealCount;)J"⟩
abbrev cX5_mixCards : ByteArray := prog_1_method_57_code
def yX5_mixCards : MethodName := ⟨RX5, "mixCards", "(JLAlibiDeals$DealCount;LAlibiDeals$RuleSheet;)J"⟩
abbrev cX5_mixTriples : ByteArray := prog_1_method_58_code
def yX5_mixTriples : MethodName := ⟨RX5, "mixTriples", "(JLAlibiDeals$DealCount;)J"⟩
abbrev cX5_mixStop : ByteArray := prog_1_method_59_code
def yX5_mixStop : MethodName := ⟨RX5, "mixStop", "(J)J"⟩
abbrev cX5_mixBuffer : ByteArray := prog_1_method_60_code
def yX5_mixBuffer : MethodName := ⟨RX5, "mixBuffer", "(J)J"⟩
abbrev cX5_bitsOfShare : ByteArray := prog_1_method_61_code
def yX5_bitsOfShare : MethodName := ⟨RX5, "bitsOfShare", "(D)J"⟩
abbrev cX5_doPart : ByteArray := prog_1_method_62_code
def yX5_doPart : MethodName := ⟨RX5, "doPart", "(III)I"⟩
abbrev cX5_addPart : ByteArray := prog_1_method_63_code
def yX5_addPart : MethodName := ⟨RX5, "addPart", "(III)V"⟩
abbrev cX5_remember : ByteArray := prog_1_method_64_code
def yX5_remember : MethodName := ⟨RX5, "remember", "()V"⟩
abbrev cX5_dropOldest : ByteArray := prog_1_method_65_code
def yX5_dropOldest : MethodName := ⟨RX5, "dropOldest", "()V"⟩
abbrev cX5_forgetCounts : ByteArray := prog_1_method_66_code
def yX5_forgetCounts : MethodName := ⟨RX5, "forgetCounts", "()V"⟩
abbrev cX5_countedDeals : ByteArray := prog_1_method_67_code
def yX5_countedDeals : MethodName := ⟨RX5, "countedDeals", "()LAlibiDeals$DealCount;"⟩
abbrev cX5_filledSheet : ByteArray := prog_1_method_68_code
def yX5_filledSheet : MethodName := ⟨RX5, "filledSheet", "()LAlibiDeals$RuleSheet;"⟩
abbrev cX5_countedHands : ByteArray := prog_1_method_69_code
def yX5_countedHands : MethodName := ⟨RX5, "countedHands", "()LAlibiDeals$HandCount;"⟩
abbrev cX5_checkCard : ByteArray := prog_1_method_70_code
def yX5_checkCard : MethodName := ⟨RX5, "checkCard", "(I)V"⟩
abbrev cX5_checkPlayer : ByteArray := prog_1_method_71_code
def yX5_checkPlayer : MethodName := ⟨RX5, "checkPlayer", "(I)V"⟩
abbrev cX5_checkPlace : ByteArray := prog_1_method_72_code
def yX5_checkPlace : MethodName := ⟨RX5, "checkPlace", "(I)V"⟩
abbrev cX5_checkTriple : ByteArray := prog_1_method_73_code
def yX5_checkTriple : MethodName := ⟨RX5, "checkTriple", "(I)V"⟩
abbrev cX5_checkCards : ByteArray := prog_1_method_74_code
def yX5_checkCards : MethodName := ⟨RX5, "checkCards", "(III)V"⟩
abbrev cX5_checkClue : ByteArray := prog_1_method_75_code
def yX5_checkClue : MethodName := ⟨RX5, "checkClue", "(I)V"⟩
abbrev cX5_checkRoomForClue : ByteArray := prog_1_method_76_code
def yX5_checkRoomForClue : MethodName := ⟨RX5, "checkRoomForClue", "()V"⟩
abbrev cX5_checkStopped : ByteArray := prog_1_method_77_code
def yX5_checkStopped : MethodName := ⟨RX5, "checkStopped", "()V"⟩
abbrev cX5_checkSome : ByteArray := prog_1_method_78_code
def yX5_checkSome : MethodName := ⟨RX5, "checkSome", "(I)V"⟩
abbrev cX5_mask : ByteArray := prog_1_method_79_code
def yX5_mask : MethodName := ⟨RX5, "mask", "(III)I"⟩
abbrev cX5_cardsOfKind : ByteArray := prog_1_method_80_code
def yX5_cardsOfKind : MethodName := ⟨RX5, "cardsOfKind", "(I)I"⟩
abbrev cX5_cardsOfTriple : ByteArray := prog_1_method_81_code
def yX5_cardsOfTriple : MethodName := ⟨RX5, "cardsOfTriple", "(I)I"⟩
abbrev cX5_numberOfTriple : ByteArray := prog_1_method_82_code
def yX5_numberOfTriple : MethodName := ⟨RX5, "numberOfTriple", "(I)I"⟩
abbrev cX5_isTriple : ByteArray := prog_1_method_83_code
def yX5_isTriple : MethodName := ⟨RX5, "isTriple", "(I)Z"⟩
abbrev cX5_exchanged : ByteArray := prog_1_method_84_code
def yX5_exchanged : MethodName := ⟨RX5, "exchanged", "(III)I"⟩
def RX6 : String := "AlibiDealsModel"
def TX6 : u_T := fun k => match k with
  | 0 => ("AlibiDealsModel", "thrown", "I", false)
  | 1 => ("AlibiDealsModel", "s", "[I", true)
  | 2 => ("AlibiDealsModel", "states", "[I", true)
  | 3 => ("AlibiDealsModel", "stateMany", "I", false)
  | 4 => ("AlibiDealsModel", "snapshot", "[I", true)
  | 5 => ("AlibiDealsModel", "hasSnapshot", "Z", false)
  | 6 => ("AlibiDealsModel", "text", "[I", true)
  | 7 => ("AlibiDealsModel", "length", "I", false)
  | 8 => ("AlibiDealsModel", "at", "I", false)
  | 9 => ("AlibiDealsModel", "isWell", "Z", false)
  | 10 => ("AlibiDealsModel", "read", "[I", true)
  | 11 => ("AlibiDealsModel", "readMany", "I", false)
  | 12 => ("AlibiDealsModel", "hand", "[I", true)
  | 13 => ("AlibiDealsModel", "left", "I", false)
  | 14 => ("AlibiDealsModel", "leftWith", "[I", true)
  | 15 => ("AlibiDealsModel", "leftIn", "[I", true)
  | 16 => ("AlibiDealsModel", "leftPassed", "[I", true)
  | 17 => ("AlibiDealsModel", "places", "[I", true)
  | _ => ("AlibiDealsModel", "broken", "Z", false)
def tyX6 : Nat → FieldType := fun k => match k with
  | 0 => .int
  | 1 => .array .int
  | 2 => .array .int
  | 3 => .int
  | 4 => .array .int
  | 5 => .boolean
  | 6 => .array .int
  | 7 => .int
  | 8 => .int
  | 9 => .boolean
  | 10 => .array .int
  | 11 => .int
  | 12 => .array .int
  | 13 => .int
  | 14 => .array .int
  | 15 => .array .int
  | 16 => .array .int
  | 17 => .array .int
  | _ => .boolean
abbrev wsX60 : List Cond := u_ws RX6 TX6 19
theorem nmX6 : ∀ a, a < 19 → ∀ b, b < 19 → a ≠ b → (TX6 a).2.1 ≠ (TX6 b).2.1 := by decide +kernel
theorem tyX6_ok : ∀ k, k < 19 → parseFieldDescriptor (TX6 k).2.2.1 = some (tyX6 k) := by decide +kernel
abbrev cX6_init : ByteArray := prog_8_method_1_code
def yX6_init : MethodName := ⟨RX6, "<init>", "()V"⟩
abbrev cX6_thrown : ByteArray := prog_8_method_2_code
def yX6_thrown : MethodName := ⟨RX6, "thrown", "()I"⟩
abbrev cX6_fails : ByteArray := prog_8_method_3_code
def yX6_fails : MethodName := ⟨RX6, "fails", "(I)I"⟩
abbrev cX6_in : ByteArray := prog_8_method_4_code
def yX6_in : MethodName := ⟨RX6, "in", "(III)Z"⟩
abbrev cX6_isCard : ByteArray := prog_8_method_5_code
def yX6_isCard : MethodName := ⟨RX6, "isCard", "(I)Z"⟩
abbrev cX6_isPlayer : ByteArray := prog_8_method_6_code
def yX6_isPlayer : MethodName := ⟨RX6, "isPlayer", "(I)Z"⟩
abbrev cX6_isTriple : ByteArray := prog_8_method_7_code
def yX6_isTriple : MethodName := ⟨RX6, "isTriple", "(I)Z"⟩
abbrev cX6_areOf : ByteArray := prog_8_method_8_code
def yX6_areOf : MethodName := ⟨RX6, "areOf", "(III)Z"⟩
abbrev cX6_isClue : ByteArray := prog_8_method_9_code
def yX6_isClue : MethodName := ⟨RX6, "isClue", "(I)Z"⟩
abbrev cX6_of : ByteArray := prog_8_method_10_code
def yX6_of : MethodName := ⟨RX6, "of", "(II)I"⟩
abbrev cX6_numbered : ByteArray := prog_8_method_11_code
def yX6_numbered : MethodName := ⟨RX6, "numbered", "(III)I"⟩
abbrev cX6_maskOf : ByteArray := prog_8_method_12_code
def yX6_maskOf : MethodName := ⟨RX6, "maskOf", "(I)I"⟩
abbrev cX6_records : ByteArray := prog_8_method_13_code
def yX6_records : MethodName := ⟨RX6, "records", "()V"⟩
abbrev cX6_agrees : ByteArray := prog_8_method_14_code
def yX6_agrees : MethodName := ⟨RX6, "agrees", "(I)Z"⟩
abbrev cX6_agreesAll : ByteArray := prog_8_method_15_code
def yX6_agreesAll : MethodName := ⟨RX6, "agreesAll", "(I)Z"⟩
abbrev cX6_countsDeal : ByteArray := prog_8_method_16_code
def yX6_countsDeal : MethodName := ⟨RX6, "countsDeal", "(I)V"⟩
abbrev cX6_bits : ByteArray := prog_8_method_17_code
def yX6_bits : MethodName := ⟨RX6, "bits", "(I)I"⟩
abbrev cX6_goes : ByteArray := prog_8_method_18_code
def yX6_goes : MethodName := ⟨RX6, "goes", "(IZ)I"⟩
abbrev cX6_surveys : ByteArray := prog_8_method_19_code
def yX6_surveys : MethodName := ⟨RX6, "surveys", "()V"⟩
abbrev cX6_certain : ByteArray := prog_8_method_20_code
def yX6_certain : MethodName := ⟨RX6, "certain", "(I)I"⟩
abbrev cX6_certainMany : ByteArray := prog_8_method_21_code
def yX6_certainMany : MethodName := ⟨RX6, "certainMany", "()I"⟩
abbrev cX6_envelopeMany : ByteArray := prog_8_method_22_code
def yX6_envelopeMany : MethodName := ⟨RX6, "envelopeMany", "()I"⟩
abbrev cX6_bestIn : ByteArray := prog_8_method_23_code
def yX6_bestIn : MethodName := ⟨RX6, "bestIn", "()I"⟩
abbrev cX6_leaves : ByteArray := prog_8_method_24_code
def yX6_leaves : MethodName := ⟨RX6, "leaves", "(II)I"⟩
abbrev cX6_bestFor : ByteArray := prog_8_method_25_code
def yX6_bestFor : MethodName := ⟨RX6, "bestFor", "(I)I"⟩
abbrev cX6_idleMany : ByteArray := prog_8_method_26_code
def yX6_idleMany : MethodName := ⟨RX6, "idleMany", "()I"⟩
abbrev cX6_mayMany : ByteArray := prog_8_method_27_code
def yX6_mayMany : MethodName := ⟨RX6, "mayMany", "()I"⟩
abbrev cX6_looksAtMaster : ByteArray := prog_8_method_28_code
def yX6_looksAtMaster : MethodName := ⟨RX6, "looksAtMaster", "()V"⟩
abbrev cX6_masterTriple : ByteArray := prog_8_method_29_code
def yX6_masterTriple : MethodName := ⟨RX6, "masterTriple", "()I"⟩
abbrev cX6_holdsTrue : ByteArray := prog_8_method_30_code
def yX6_holdsTrue : MethodName := ⟨RX6, "holdsTrue", "(I)Z"⟩
abbrev cX6_untrueMany : ByteArray := prog_8_method_31_code
def yX6_untrueMany : MethodName := ⟨RX6, "untrueMany", "()I"⟩
abbrev cX6_keeps : ByteArray := prog_8_method_32_code
def yX6_keeps : MethodName := ⟨RX6, "keeps", "(II)Z"⟩
abbrev cX6_loses : ByteArray := prog_8_method_33_code
def yX6_loses : MethodName := ⟨RX6, "loses", "(II)Z"⟩
abbrev cX6_mayLie : ByteArray := prog_8_method_34_code
def yX6_mayLie : MethodName := ⟨RX6, "mayLie", "(II)Z"⟩
abbrev cX6_isOnly : ByteArray := prog_8_method_35_code
def yX6_isOnly : MethodName := ⟨RX6, "isOnly", "(II)Z"⟩
abbrev cX6_counts : ByteArray := prog_8_method_36_code
def yX6_counts : MethodName := ⟨RX6, "counts", "(IIZ)I"⟩
abbrev cX6_fixes : ByteArray := prog_8_method_37_code
def yX6_fixes : MethodName := ⟨RX6, "fixes", "(II)Z"⟩
abbrev cX6_bars : ByteArray := prog_8_method_38_code
def yX6_bars : MethodName := ⟨RX6, "bars", "(II)Z"⟩
abbrev cX6_usesClue : ByteArray := prog_8_method_39_code
def yX6_usesClue : MethodName := ⟨RX6, "usesClue", "(I)Z"⟩
abbrev cX6_usesKind : ByteArray := prog_8_method_40_code
def yX6_usesKind : MethodName := ⟨RX6, "usesKind", "(I)Z"⟩
abbrev cX6_usesPlayer : ByteArray := prog_8_method_41_code
def yX6_usesPlayer : MethodName := ⟨RX6, "usesPlayer", "(I)Z"⟩
abbrev cX6_breaksDown : ByteArray := prog_8_method_42_code
def yX6_breaksDown : MethodName := ⟨RX6, "breaksDown", "()Z"⟩
abbrev cX6_rules : ByteArray := prog_8_method_43_code
def yX6_rules : MethodName := ⟨RX6, "rules", "()V"⟩
abbrev cX6_crossedMany : ByteArray := prog_8_method_44_code
def yX6_crossedMany : MethodName := ⟨RX6, "crossedMany", "()I"⟩
abbrev cX6_only : ByteArray := prog_8_method_45_code
def yX6_only : MethodName := ⟨RX6, "only", "(I)I"⟩
abbrev cX6_adds : ByteArray := prog_8_method_46_code
def yX6_adds : MethodName := ⟨RX6, "adds", "(III)I"⟩
abbrev cX6_drops : ByteArray := prog_8_method_47_code
def yX6_drops : MethodName := ⟨RX6, "drops", "(I)V"⟩
abbrev cX6_asks : ByteArray := prog_8_method_48_code
def yX6_asks : MethodName := ⟨RX6, "asks", "(II)Z"⟩
abbrev cX6_looksAt : ByteArray := prog_8_method_49_code
def yX6_looksAt : MethodName := ⟨RX6, "looksAt", "(II)I"⟩
abbrev cX6_accuses : ByteArray := prog_8_method_50_code
def yX6_accuses : MethodName := ⟨RX6, "accuses", "(I)Z"⟩
abbrev cX6_changes : ByteArray := prog_8_method_51_code
def yX6_changes : MethodName := ⟨RX6, "changes", "(II)V"⟩
abbrev cX6_exchange : ByteArray := prog_8_method_52_code
def yX6_exchange : MethodName := ⟨RX6, "exchange", "(II)I"⟩
abbrev cX6_notes : ByteArray := prog_8_method_53_code
def yX6_notes : MethodName := ⟨RX6, "notes", "(III)I"⟩
abbrev cX6_noteHas : ByteArray := prog_8_method_54_code
def yX6_noteHas : MethodName := ⟨RX6, "noteHas", "(II)I"⟩
abbrev cX6_noteLacks : ByteArray := prog_8_method_55_code
def yX6_noteLacks : MethodName := ⟨RX6, "noteLacks", "(II)I"⟩
abbrev cX6_noteShows : ByteArray := prog_8_method_56_code
def yX6_noteShows : MethodName := ⟨RX6, "noteShows", "(IIII)I"⟩
abbrev cX6_dropClue : ByteArray := prog_8_method_57_code
def yX6_dropClue : MethodName := ⟨RX6, "dropClue", "(I)I"⟩
abbrev cX6_dropAll : ByteArray := prog_8_method_58_code
def yX6_dropAll : MethodName := ⟨RX6, "dropAll", "()I"⟩
abbrev cX6_barsQuestion : ByteArray := prog_8_method_59_code
def yX6_barsQuestion : MethodName := ⟨RX6, "barsQuestion", "(Z)I"⟩
abbrev cX6_ask : ByteArray := prog_8_method_60_code
def yX6_ask : MethodName := ⟨RX6, "ask", "(IIII)Z"⟩
abbrev cX6_look : ByteArray := prog_8_method_61_code
def yX6_look : MethodName := ⟨RX6, "look", "(IIII)I"⟩
abbrev cX6_accuse : ByteArray := prog_8_method_62_code
def yX6_accuse : MethodName := ⟨RX6, "accuse", "(III)Z"⟩
abbrev cX6_append : ByteArray := prog_8_method_63_code
def yX6_append : MethodName := ⟨RX6, "append", "(I)I"⟩
abbrev cX6_clearBuffer : ByteArray := prog_8_method_64_code
def yX6_clearBuffer : MethodName := ⟨RX6, "clearBuffer", "()I"⟩
abbrev cX6_sign : ByteArray := prog_8_method_65_code
def yX6_sign : MethodName := ⟨RX6, "sign", "()I"⟩
abbrev cX6_takes : ByteArray := prog_8_method_66_code
def yX6_takes : MethodName := ⟨RX6, "takes", "(II)I"⟩
abbrev cX6_number : ByteArray := prog_8_method_67_code
def yX6_number : MethodName := ⟨RX6, "number", "(I)I"⟩
abbrev cX6_readsPart : ByteArray := prog_8_method_68_code
def yX6_readsPart : MethodName := ⟨RX6, "readsPart", "()V"⟩
abbrev cX6_readsWorks : ByteArray := prog_8_method_69_code
def yX6_readsWorks : MethodName := ⟨RX6, "readsWorks", "()Z"⟩
abbrev cX6_firstError : ByteArray := prog_8_method_70_code
def yX6_firstError : MethodName := ⟨RX6, "firstError", "()I"⟩
abbrev cX6_does : ByteArray := prog_8_method_71_code
def yX6_does : MethodName := ⟨RX6, "does", "(I)I"⟩
abbrev cX6_work : ByteArray := prog_8_method_72_code
def yX6_work : MethodName := ⟨RX6, "work", "()I"⟩
abbrev cX6_hasStopped : ByteArray := prog_8_method_73_code
def yX6_hasStopped : MethodName := ⟨RX6, "hasStopped", "()Z"⟩
abbrev cX6_stoppedPart : ByteArray := prog_8_method_74_code
def yX6_stoppedPart : MethodName := ⟨RX6, "stoppedPart", "()I"⟩
abbrev cX6_whyStopped : ByteArray := prog_8_method_75_code
def yX6_whyStopped : MethodName := ⟨RX6, "whyStopped", "()I"⟩
abbrev cX6_undo : ByteArray := prog_8_method_76_code
def yX6_undo : MethodName := ⟨RX6, "undo", "()I"⟩
abbrev cX6_keep : ByteArray := prog_8_method_77_code
def yX6_keep : MethodName := ⟨RX6, "keep", "()I"⟩
abbrev cX6_restore : ByteArray := prog_8_method_78_code
def yX6_restore : MethodName := ⟨RX6, "restore", "()I"⟩
abbrev cX6_savedStates : ByteArray := prog_8_method_79_code
def yX6_savedStates : MethodName := ⟨RX6, "savedStates", "()I"⟩
abbrev cX6_truePlace : ByteArray := prog_8_method_80_code
def yX6_truePlace : MethodName := ⟨RX6, "truePlace", "(I)I"⟩
abbrev cX6_trueEnvelope : ByteArray := prog_8_method_81_code
def yX6_trueEnvelope : MethodName := ⟨RX6, "trueEnvelope", "()I"⟩
abbrev cX6_clues : ByteArray := prog_8_method_82_code
def yX6_clues : MethodName := ⟨RX6, "clues", "()I"⟩
abbrev cX6_tells : ByteArray := prog_8_method_83_code
def yX6_tells : MethodName := ⟨RX6, "tells", "(II)I"⟩
abbrev cX6_kindOf : ByteArray := prog_8_method_84_code
def yX6_kindOf : MethodName := ⟨RX6, "kindOf", "(I)I"⟩
abbrev cX6_playerOf : ByteArray := prog_8_method_85_code
def yX6_playerOf : MethodName := ⟨RX6, "playerOf", "(I)I"⟩
abbrev cX6_cardsOf : ByteArray := prog_8_method_86_code
def yX6_cardsOf : MethodName := ⟨RX6, "cardsOf", "(I)I"⟩
abbrev cX6_isTrue : ByteArray := prog_8_method_87_code
def yX6_isTrue : MethodName := ⟨RX6, "isTrue", "(I)Z"⟩
abbrev cX6_untrueClues : ByteArray := prog_8_method_88_code
def yX6_untrueClues : MethodName := ⟨RX6, "untrueClues", "()I"⟩
abbrev cX6_deals : ByteArray := prog_8_method_89_code
def yX6_deals : MethodName := ⟨RX6, "deals", "()I"⟩
abbrev cX6_dealsByHands : ByteArray := prog_8_method_90_code
def yX6_dealsByHands : MethodName := ⟨RX6, "dealsByHands", "()I"⟩
abbrev cX6_tellsWith : ByteArray := prog_8_method_91_code
def yX6_tellsWith : MethodName := ⟨RX6, "tellsWith", "(II)I"⟩
abbrev cX6_dealsWith : ByteArray := prog_8_method_92_code
def yX6_dealsWith : MethodName := ⟨RX6, "dealsWith", "(II)I"⟩
abbrev cX6_mayBe : ByteArray := prog_8_method_93_code
def yX6_mayBe : MethodName := ⟨RX6, "mayBe", "(II)Z"⟩
abbrev cX6_certainPlace : ByteArray := prog_8_method_94_code
def yX6_certainPlace : MethodName := ⟨RX6, "certainPlace", "(I)I"⟩
abbrev cX6_certainCards : ByteArray := prog_8_method_95_code
def yX6_certainCards : MethodName := ⟨RX6, "certainCards", "()I"⟩
abbrev cX6_isBroken : ByteArray := prog_8_method_96_code
def yX6_isBroken : MethodName := ⟨RX6, "isBroken", "()Z"⟩
abbrev cX6_mayBeByRules : ByteArray := prog_8_method_97_code
def yX6_mayBeByRules : MethodName := ⟨RX6, "mayBeByRules", "(II)Z"⟩
abbrev cX6_placeByRules : ByteArray := prog_8_method_98_code
def yX6_placeByRules : MethodName := ⟨RX6, "placeByRules", "(I)I"⟩
abbrev cX6_crossedOff : ByteArray := prog_8_method_99_code
def yX6_crossedOff : MethodName := ⟨RX6, "crossedOff", "()I"⟩
abbrev cX6_hidden : ByteArray := prog_8_method_100_code
def yX6_hidden : MethodName := ⟨RX6, "hidden", "()I"⟩
abbrev cX6_hiddenCrosses : ByteArray := prog_8_method_101_code
def yX6_hiddenCrosses : MethodName := ⟨RX6, "hiddenCrosses", "()I"⟩
abbrev cX6_envelopeDeals : ByteArray := prog_8_method_102_code
def yX6_envelopeDeals : MethodName := ⟨RX6, "envelopeDeals", "(I)I"⟩
abbrev cX6_envelopes : ByteArray := prog_8_method_103_code
def yX6_envelopes : MethodName := ⟨RX6, "envelopes", "()I"⟩
abbrev cX6_bestAccusation : ByteArray := prog_8_method_104_code
def yX6_bestAccusation : MethodName := ⟨RX6, "bestAccusation", "()I"⟩
abbrev cX6_isSolved : ByteArray := prog_8_method_105_code
def yX6_isSolved : MethodName := ⟨RX6, "isSolved", "()Z"⟩
abbrev cX6_barsAsked : ByteArray := prog_8_method_106_code
def yX6_barsAsked : MethodName := ⟨RX6, "barsAsked", "(II)I"⟩
abbrev cX6_dealsIfPassed : ByteArray := prog_8_method_107_code
def yX6_dealsIfPassed : MethodName := ⟨RX6, "dealsIfPassed", "(II)I"⟩
abbrev cX6_leftBy : ByteArray := prog_8_method_108_code
def yX6_leftBy : MethodName := ⟨RX6, "leftBy", "(II)I"⟩
abbrev cX6_bestQuestion : ByteArray := prog_8_method_109_code
def yX6_bestQuestion : MethodName := ⟨RX6, "bestQuestion", "(I)I"⟩
abbrev cX6_dealsWithout : ByteArray := prog_8_method_110_code
def yX6_dealsWithout : MethodName := ⟨RX6, "dealsWithout", "(I)I"⟩
abbrev cX6_idleClues : ByteArray := prog_8_method_111_code
def yX6_idleClues : MethodName := ⟨RX6, "idleClues", "()I"⟩
abbrev cX6_chanceNow : ByteArray := prog_8_method_112_code
def yX6_chanceNow : MethodName := ⟨RX6, "chanceNow", "()D"⟩
abbrev cX6_chance : ByteArray := prog_8_method_113_code
def yX6_chance : MethodName := ⟨RX6, "chance", "()D"⟩
abbrev cX6_digestAll : ByteArray := prog_8_method_114_code
def yX6_digestAll : MethodName := ⟨RX6, "digestAll", "(J)J"⟩
abbrev cX6_digestClues : ByteArray := prog_8_method_115_code
def yX6_digestClues : MethodName := ⟨RX6, "digestClues", "(J)J"⟩
abbrev cX6_digestCards : ByteArray := prog_8_method_116_code
def yX6_digestCards : MethodName := ⟨RX6, "digestCards", "(J)J"⟩
abbrev cX6_digest : ByteArray := prog_8_method_117_code
def yX6_digest : MethodName := ⟨RX6, "digest", "()J"⟩
def RJxe99ae : String := "java/lang/Double"
abbrev cJxe99ae_isNaN_b9ae7 : ByteArray := prog_9_method_6_code
def yJxe99ae_isNaN_b9ae7 : MethodName := ⟨RJxe99ae, "isNaN", "(D)Z"⟩
abbrev cJxe99ae_doubleToLongBits_ccdee : ByteArray := prog_9_method_23_code
def yJxe99ae_doubleToLongBits_ccdee : MethodName := ⟨RJxe99ae, "doubleToLongBits", "(D)J"⟩
def RJ6 : String := "java/lang/Integer"
abbrev cJ6_bitCount_0f7a4 : ByteArray := prog_14_method_49_code
def yJ6_bitCount_0f7a4 : MethodName := ⟨RJ6, "bitCount", "(I)I"⟩
def RJ9 : String := "java/lang/Math"
abbrev cJ9_max_7cf53 : ByteArray := prog_15_method_65_code
def yJ9_max_7cf53 : MethodName := ⟨RJ9, "max", "(II)I"⟩
def RL : String := "AlibiDealsLaw"
abbrev cL_exchange : ByteArray := method_3_code
def yL_exchange : MethodName := ⟨RL, "exchange", "(LAlibiDeals;II[J)I"⟩
abbrev cL_noteHas : ByteArray := method_4_code
def yL_noteHas : MethodName := ⟨RL, "noteHas", "(LAlibiDeals;II[J)I"⟩
abbrev cL_noteLacks : ByteArray := method_5_code
def yL_noteLacks : MethodName := ⟨RL, "noteLacks", "(LAlibiDeals;II[J)I"⟩
abbrev cL_noteShows : ByteArray := method_6_code
def yL_noteShows : MethodName := ⟨RL, "noteShows", "(LAlibiDeals;IIII[J)I"⟩
abbrev cL_dropClue : ByteArray := method_7_code
def yL_dropClue : MethodName := ⟨RL, "dropClue", "(LAlibiDeals;I[J)I"⟩
abbrev cL_ask : ByteArray := method_8_code
def yL_ask : MethodName := ⟨RL, "ask", "(LAlibiDeals;IIII[J)I"⟩
abbrev cL_look : ByteArray := method_9_code
def yL_look : MethodName := ⟨RL, "look", "(LAlibiDeals;IIII[J)I"⟩
abbrev cL_accuse : ByteArray := method_10_code
def yL_accuse : MethodName := ⟨RL, "accuse", "(LAlibiDeals;III[J)I"⟩
abbrev cL_append : ByteArray := method_11_code
def yL_append : MethodName := ⟨RL, "append", "(LAlibiDeals;I[J)I"⟩
abbrev cL_work : ByteArray := method_12_code
def yL_work : MethodName := ⟨RL, "work", "(LAlibiDeals;[J)I"⟩
abbrev cL_stoppedPart : ByteArray := method_13_code
def yL_stoppedPart : MethodName := ⟨RL, "stoppedPart", "(LAlibiDeals;[J)I"⟩
abbrev cL_whyStopped : ByteArray := method_14_code
def yL_whyStopped : MethodName := ⟨RL, "whyStopped", "(LAlibiDeals;[J)I"⟩
abbrev cL_undo : ByteArray := method_15_code
def yL_undo : MethodName := ⟨RL, "undo", "(LAlibiDeals;[J)I"⟩
abbrev cL_restore : ByteArray := method_16_code
def yL_restore : MethodName := ⟨RL, "restore", "(LAlibiDeals;[J)I"⟩
abbrev cL_truePlace : ByteArray := method_17_code
def yL_truePlace : MethodName := ⟨RL, "truePlace", "(LAlibiDeals;I[J)I"⟩
abbrev cL_kindOf : ByteArray := method_18_code
def yL_kindOf : MethodName := ⟨RL, "kindOf", "(LAlibiDeals;I[J)I"⟩
abbrev cL_playerOf : ByteArray := method_19_code
def yL_playerOf : MethodName := ⟨RL, "playerOf", "(LAlibiDeals;I[J)I"⟩
abbrev cL_cardsOf : ByteArray := method_20_code
def yL_cardsOf : MethodName := ⟨RL, "cardsOf", "(LAlibiDeals;I[J)I"⟩
abbrev cL_isTrue : ByteArray := method_21_code
def yL_isTrue : MethodName := ⟨RL, "isTrue", "(LAlibiDeals;I[J)I"⟩
abbrev cL_dealsWith : ByteArray := method_22_code
def yL_dealsWith : MethodName := ⟨RL, "dealsWith", "(LAlibiDeals;II[J)I"⟩
abbrev cL_mayBe : ByteArray := method_23_code
def yL_mayBe : MethodName := ⟨RL, "mayBe", "(LAlibiDeals;II[J)I"⟩
abbrev cL_certainPlace : ByteArray := method_24_code
def yL_certainPlace : MethodName := ⟨RL, "certainPlace", "(LAlibiDeals;I[J)I"⟩
abbrev cL_mayBeByRules : ByteArray := method_25_code
def yL_mayBeByRules : MethodName := ⟨RL, "mayBeByRules", "(LAlibiDeals;II[J)I"⟩
abbrev cL_placeByRules : ByteArray := method_26_code
def yL_placeByRules : MethodName := ⟨RL, "placeByRules", "(LAlibiDeals;I[J)I"⟩
abbrev cL_envelopeDeals : ByteArray := method_27_code
def yL_envelopeDeals : MethodName := ⟨RL, "envelopeDeals", "(LAlibiDeals;I[J)I"⟩
abbrev cL_bestAccusation : ByteArray := method_28_code
def yL_bestAccusation : MethodName := ⟨RL, "bestAccusation", "(LAlibiDeals;[J)I"⟩
abbrev cL_dealsIfPassed : ByteArray := method_29_code
def yL_dealsIfPassed : MethodName := ⟨RL, "dealsIfPassed", "(LAlibiDeals;II[J)I"⟩
abbrev cL_leftBy : ByteArray := method_30_code
def yL_leftBy : MethodName := ⟨RL, "leftBy", "(LAlibiDeals;II[J)I"⟩
abbrev cL_bestQuestion : ByteArray := method_31_code
def yL_bestQuestion : MethodName := ⟨RL, "bestQuestion", "(LAlibiDeals;I[J)I"⟩
abbrev cL_dealsWithout : ByteArray := method_32_code
def yL_dealsWithout : MethodName := ⟨RL, "dealsWithout", "(LAlibiDeals;I[J)I"⟩
abbrev cL_law : ByteArray := code
def yL_law : MethodName := ⟨RL, "law", "([I)Z"⟩
abbrev vwCl : List vw_C := [(RX0, TX0, 7), (RX1, TX1, 3), (RX2, TX2, 3), (RX3, TX3, 7), (RX4, TX4, 4), (RX5, TX5, 11), (RX6, TX6, 19)]
