/-! PART A of the skeleton (a starting text, pasted) -/
-- ===== PART A: goes FIRST, ahead of the names: the tables' words, and 'selects' of the private methods out of them =====
/-- a private method of a class that the tables say can be made, by its rows of tables_1 -/
def lw_okq (q : MethodName × Nat) : Prop := (q.1.cls ≠ "java/lang/invoke/MethodHandle" ∧ q.1.cls ≠ "java/lang/invoke/VarHandle") ∧ Cond.instantiable q.1.cls q.2 ∈ tables_1 ∧ Cond.privateMethod q.1 ∈ tables_1 ∧ Cond.instanceMethod q.1 ∈ tables_1
theorem lw_p0 : lw_okq (⟨"java/lang/Throwable", "fillInStackTrace", "(I)Ljava/lang/Throwable;"⟩, 6) := ⟨⟨by decide +kernel, by decide +kernel⟩, List.mem_of_getElem? (i := 227) (by decide +kernel), List.mem_of_getElem? (i := 225) (by decide +kernel), List.mem_of_getElem? (i := 226) (by decide +kernel)⟩
theorem lw_p1 : lw_okq (⟨"AlibiDeals", "forgetCounts", "()V"⟩, 11) := ⟨⟨by decide +kernel, by decide +kernel⟩, List.mem_of_getElem? (i := 15) (by decide +kernel), List.mem_of_getElem? (i := 261) (by decide +kernel), List.mem_of_getElem? (i := 262) (by decide +kernel)⟩
theorem lw_p2 : lw_okq (⟨"AlibiDeals", "countedDeals", "()LAlibiDeals$DealCount;"⟩, 11) := ⟨⟨by decide +kernel, by decide +kernel⟩, List.mem_of_getElem? (i := 15) (by decide +kernel), List.mem_of_getElem? (i := 311) (by decide +kernel), List.mem_of_getElem? (i := 312) (by decide +kernel)⟩
theorem lw_p3 : lw_okq (⟨"AlibiDeals$DealCount", "judge", "(ILAlibiDeals$State;)V"⟩, 7) := ⟨⟨by decide +kernel, by decide +kernel⟩, List.mem_of_getElem? (i := 80) (by decide +kernel), List.mem_of_getElem? (i := 325) (by decide +kernel), List.mem_of_getElem? (i := 326) (by decide +kernel)⟩
theorem lw_p4 : lw_okq (⟨"AlibiDeals$DealCount", "include", "(I)V"⟩, 7) := ⟨⟨by decide +kernel, by decide +kernel⟩, List.mem_of_getElem? (i := 80) (by decide +kernel), List.mem_of_getElem? (i := 333) (by decide +kernel), List.mem_of_getElem? (i := 334) (by decide +kernel)⟩
theorem lw_p5 : lw_okq (⟨"AlibiDeals$DealCount", "hasRoom", "(II)Z"⟩, 7) := ⟨⟨by decide +kernel, by decide +kernel⟩, List.mem_of_getElem? (i := 80) (by decide +kernel), List.mem_of_getElem? (i := 337) (by decide +kernel), List.mem_of_getElem? (i := 338) (by decide +kernel)⟩
theorem lw_p6 : lw_okq (⟨"AlibiDeals", "filledSheet", "()LAlibiDeals$RuleSheet;"⟩, 11) := ⟨⟨by decide +kernel, by decide +kernel⟩, List.mem_of_getElem? (i := 15) (by decide +kernel), List.mem_of_getElem? (i := 370) (by decide +kernel), List.mem_of_getElem? (i := 371) (by decide +kernel)⟩
theorem lw_p7 : lw_okq (⟨"AlibiDeals$RuleSheet", "setAll", "(I)V"⟩, 3) := ⟨⟨by decide +kernel, by decide +kernel⟩, List.mem_of_getElem? (i := 128) (by decide +kernel), List.mem_of_getElem? (i := 378) (by decide +kernel), List.mem_of_getElem? (i := 379) (by decide +kernel)⟩
theorem lw_p8 : lw_okq (⟨"AlibiDeals$RuleSheet", "applyClues", "(LAlibiDeals$State;)V"⟩, 3) := ⟨⟨by decide +kernel, by decide +kernel⟩, List.mem_of_getElem? (i := 128) (by decide +kernel), List.mem_of_getElem? (i := 382) (by decide +kernel), List.mem_of_getElem? (i := 383) (by decide +kernel)⟩
theorem lw_p9 : lw_okq (⟨"AlibiDeals$RuleSheet", "applyClue", "(III)V"⟩, 3) := ⟨⟨by decide +kernel, by decide +kernel⟩, List.mem_of_getElem? (i := 128) (by decide +kernel), List.mem_of_getElem? (i := 386) (by decide +kernel), List.mem_of_getElem? (i := 387) (by decide +kernel)⟩
theorem lw_p10 : lw_okq (⟨"AlibiDeals$RuleSheet", "keepOnly", "(II)V"⟩, 3) := ⟨⟨by decide +kernel, by decide +kernel⟩, List.mem_of_getElem? (i := 128) (by decide +kernel), List.mem_of_getElem? (i := 390) (by decide +kernel), List.mem_of_getElem? (i := 391) (by decide +kernel)⟩
theorem lw_p11 : lw_okq (⟨"AlibiDeals$RuleSheet", "crossOff", "(II)V"⟩, 3) := ⟨⟨by decide +kernel, by decide +kernel⟩, List.mem_of_getElem? (i := 128) (by decide +kernel), List.mem_of_getElem? (i := 394) (by decide +kernel), List.mem_of_getElem? (i := 395) (by decide +kernel)⟩
theorem lw_p12 : lw_okq (⟨"AlibiDeals$RuleSheet", "keepIfJust", "(III)V"⟩, 3) := ⟨⟨by decide +kernel, by decide +kernel⟩, List.mem_of_getElem? (i := 128) (by decide +kernel), List.mem_of_getElem? (i := 398) (by decide +kernel), List.mem_of_getElem? (i := 399) (by decide +kernel)⟩
theorem lw_p13 : lw_okq (⟨"AlibiDeals$RuleSheet", "withPlace", "(II)I"⟩, 3) := ⟨⟨by decide +kernel, by decide +kernel⟩, List.mem_of_getElem? (i := 128) (by decide +kernel), List.mem_of_getElem? (i := 402) (by decide +kernel), List.mem_of_getElem? (i := 403) (by decide +kernel)⟩
theorem lw_p14 : lw_okq (⟨"AlibiDeals$RuleSheet", "crossIfSure", "(III)V"⟩, 3) := ⟨⟨by decide +kernel, by decide +kernel⟩, List.mem_of_getElem? (i := 128) (by decide +kernel), List.mem_of_getElem? (i := 407) (by decide +kernel), List.mem_of_getElem? (i := 408) (by decide +kernel)⟩
theorem lw_p15 : lw_okq (⟨"AlibiDeals$RuleSheet", "withOnly", "(II)I"⟩, 3) := ⟨⟨by decide +kernel, by decide +kernel⟩, List.mem_of_getElem? (i := 128) (by decide +kernel), List.mem_of_getElem? (i := 411) (by decide +kernel), List.mem_of_getElem? (i := 412) (by decide +kernel)⟩
def lw_privs_1 : List (MethodName × Nat) := [(⟨"java/lang/Throwable", "fillInStackTrace", "(I)Ljava/lang/Throwable;"⟩, 6), (⟨"AlibiDeals", "forgetCounts", "()V"⟩, 11), (⟨"AlibiDeals", "countedDeals", "()LAlibiDeals$DealCount;"⟩, 11), (⟨"AlibiDeals$DealCount", "judge", "(ILAlibiDeals$State;)V"⟩, 7), (⟨"AlibiDeals$DealCount", "include", "(I)V"⟩, 7), (⟨"AlibiDeals$DealCount", "hasRoom", "(II)Z"⟩, 7), (⟨"AlibiDeals", "filledSheet", "()LAlibiDeals$RuleSheet;"⟩, 11), (⟨"AlibiDeals$RuleSheet", "setAll", "(I)V"⟩, 3), (⟨"AlibiDeals$RuleSheet", "applyClues", "(LAlibiDeals$State;)V"⟩, 3), (⟨"AlibiDeals$RuleSheet", "applyClue", "(III)V"⟩, 3), (⟨"AlibiDeals$RuleSheet", "keepOnly", "(II)V"⟩, 3), (⟨"AlibiDeals$RuleSheet", "crossOff", "(II)V"⟩, 3), (⟨"AlibiDeals$RuleSheet", "keepIfJust", "(III)V"⟩, 3), (⟨"AlibiDeals$RuleSheet", "withPlace", "(II)I"⟩, 3), (⟨"AlibiDeals$RuleSheet", "crossIfSure", "(III)V"⟩, 3), (⟨"AlibiDeals$RuleSheet", "withOnly", "(II)I"⟩, 3)]
theorem lw_r1 : ∀ q ∈ lw_privs_1, lw_okq q := List.forall_mem_cons.mpr ⟨lw_p0, List.forall_mem_cons.mpr ⟨lw_p1, List.forall_mem_cons.mpr ⟨lw_p2, List.forall_mem_cons.mpr ⟨lw_p3, List.forall_mem_cons.mpr ⟨lw_p4, List.forall_mem_cons.mpr ⟨lw_p5, List.forall_mem_cons.mpr ⟨lw_p6, List.forall_mem_cons.mpr ⟨lw_p7, List.forall_mem_cons.mpr ⟨lw_p8, List.forall_mem_cons.mpr ⟨lw_p9, List.forall_mem_cons.mpr ⟨lw_p10, List.forall_mem_cons.mpr ⟨lw_p11, List.forall_mem_cons.mpr ⟨lw_p12, List.forall_mem_cons.mpr ⟨lw_p13, List.forall_mem_cons.mpr ⟨lw_p14, List.forall_mem_cons.mpr ⟨lw_p15, fun _ h => absurd h List.not_mem_nil⟩⟩⟩⟩⟩⟩⟩⟩⟩⟩⟩⟩⟩⟩⟩⟩
theorem lw_p16 : lw_okq (⟨"AlibiDeals$RuleSheet", "applyKinds", "()V"⟩, 3) := ⟨⟨by decide +kernel, by decide +kernel⟩, List.mem_of_getElem? (i := 128) (by decide +kernel), List.mem_of_getElem? (i := 415) (by decide +kernel), List.mem_of_getElem? (i := 416) (by decide +kernel)⟩
theorem lw_p17 : lw_okq (⟨"AlibiDeals$RuleSheet", "applyPlayers", "()V"⟩, 3) := ⟨⟨by decide +kernel, by decide +kernel⟩, List.mem_of_getElem? (i := 128) (by decide +kernel), List.mem_of_getElem? (i := 420) (by decide +kernel), List.mem_of_getElem? (i := 421) (by decide +kernel)⟩
theorem lw_p18 : lw_okq (⟨"AlibiDeals$RuleSheet", "breaksDown", "()Z"⟩, 3) := ⟨⟨by decide +kernel, by decide +kernel⟩, List.mem_of_getElem? (i := 128) (by decide +kernel), List.mem_of_getElem? (i := 428) (by decide +kernel), List.mem_of_getElem? (i := 429) (by decide +kernel)⟩
theorem lw_p19 : lw_okq (⟨"AlibiDeals$RuleSheet", "fits", "(III)Z"⟩, 3) := ⟨⟨by decide +kernel, by decide +kernel⟩, List.mem_of_getElem? (i := 128) (by decide +kernel), List.mem_of_getElem? (i := 432) (by decide +kernel), List.mem_of_getElem? (i := 433) (by decide +kernel)⟩
theorem lw_p20 : lw_okq (⟨"AlibiDeals$RuleSheet", "breaksClue", "(LAlibiDeals$State;)Z"⟩, 3) := ⟨⟨by decide +kernel, by decide +kernel⟩, List.mem_of_getElem? (i := 128) (by decide +kernel), List.mem_of_getElem? (i := 436) (by decide +kernel), List.mem_of_getElem? (i := 437) (by decide +kernel)⟩
theorem lw_p21 : lw_okq (⟨"AlibiDeals", "checkClue", "(I)V"⟩, 11) := ⟨⟨by decide +kernel, by decide +kernel⟩, List.mem_of_getElem? (i := 15) (by decide +kernel), List.mem_of_getElem? (i := 469) (by decide +kernel), List.mem_of_getElem? (i := 470) (by decide +kernel)⟩
theorem lw_p22 : lw_okq (⟨"AlibiDeals", "checkStopped", "()V"⟩, 11) := ⟨⟨by decide +kernel, by decide +kernel⟩, List.mem_of_getElem? (i := 15) (by decide +kernel), List.mem_of_getElem? (i := 486) (by decide +kernel), List.mem_of_getElem? (i := 487) (by decide +kernel)⟩
theorem lw_p23 : lw_okq (⟨"AlibiDeals", "checkRoomForClue", "()V"⟩, 11) := ⟨⟨by decide +kernel, by decide +kernel⟩, List.mem_of_getElem? (i := 15) (by decide +kernel), List.mem_of_getElem? (i := 506) (by decide +kernel), List.mem_of_getElem? (i := 507) (by decide +kernel)⟩
theorem lw_p24 : lw_okq (⟨"AlibiDeals", "remember", "()V"⟩, 11) := ⟨⟨by decide +kernel, by decide +kernel⟩, List.mem_of_getElem? (i := 15) (by decide +kernel), List.mem_of_getElem? (i := 511) (by decide +kernel), List.mem_of_getElem? (i := 512) (by decide +kernel)⟩
theorem lw_p25 : lw_okq (⟨"AlibiDeals", "dropOldest", "()V"⟩, 11) := ⟨⟨by decide +kernel, by decide +kernel⟩, List.mem_of_getElem? (i := 15) (by decide +kernel), List.mem_of_getElem? (i := 515) (by decide +kernel), List.mem_of_getElem? (i := 516) (by decide +kernel)⟩
theorem lw_p26 : lw_okq (⟨"AlibiDeals$State", "handOf", "(II)I"⟩, 7) := ⟨⟨by decide +kernel, by decide +kernel⟩, List.mem_of_getElem? (i := 23) (by decide +kernel), List.mem_of_getElem? (i := 548) (by decide +kernel), List.mem_of_getElem? (i := 549) (by decide +kernel)⟩
theorem lw_p27 : lw_okq (⟨"AlibiDeals", "countedHands", "()LAlibiDeals$HandCount;"⟩, 11) := ⟨⟨by decide +kernel, by decide +kernel⟩, List.mem_of_getElem? (i := 15) (by decide +kernel), List.mem_of_getElem? (i := 601) (by decide +kernel), List.mem_of_getElem? (i := 602) (by decide +kernel)⟩
def lw_privs_2 : List (MethodName × Nat) := [(⟨"AlibiDeals$RuleSheet", "applyKinds", "()V"⟩, 3), (⟨"AlibiDeals$RuleSheet", "applyPlayers", "()V"⟩, 3), (⟨"AlibiDeals$RuleSheet", "breaksDown", "()Z"⟩, 3), (⟨"AlibiDeals$RuleSheet", "fits", "(III)Z"⟩, 3), (⟨"AlibiDeals$RuleSheet", "breaksClue", "(LAlibiDeals$State;)Z"⟩, 3), (⟨"AlibiDeals", "checkClue", "(I)V"⟩, 11), (⟨"AlibiDeals", "checkStopped", "()V"⟩, 11), (⟨"AlibiDeals", "checkRoomForClue", "()V"⟩, 11), (⟨"AlibiDeals", "remember", "()V"⟩, 11), (⟨"AlibiDeals", "dropOldest", "()V"⟩, 11), (⟨"AlibiDeals$State", "handOf", "(II)I"⟩, 7), (⟨"AlibiDeals", "countedHands", "()LAlibiDeals$HandCount;"⟩, 11)]
theorem lw_r2 : ∀ q ∈ lw_privs_2, lw_okq q := List.forall_mem_cons.mpr ⟨lw_p16, List.forall_mem_cons.mpr ⟨lw_p17, List.forall_mem_cons.mpr ⟨lw_p18, List.forall_mem_cons.mpr ⟨lw_p19, List.forall_mem_cons.mpr ⟨lw_p20, List.forall_mem_cons.mpr ⟨lw_p21, List.forall_mem_cons.mpr ⟨lw_p22, List.forall_mem_cons.mpr ⟨lw_p23, List.forall_mem_cons.mpr ⟨lw_p24, List.forall_mem_cons.mpr ⟨lw_p25, List.forall_mem_cons.mpr ⟨lw_p26, List.forall_mem_cons.mpr ⟨lw_p27, fun _ h => absurd h List.not_mem_nil⟩⟩⟩⟩⟩⟩⟩⟩⟩⟩⟩⟩
def lw_privs : List (MethodName × Nat) := lw_privs_1 ++ (lw_privs_2)
def lw_tbl : List Cond := k2_sels lw_privs ++ tables_1
theorem lw_privs_ok : ∀ q ∈ lw_privs, lw_okq q := by
  show ∀ q ∈ lw_privs_1 ++ (lw_privs_2), lw_okq q
  exact List.forall_mem_append.mpr ⟨lw_r1, lw_r2⟩
/-- the streams that the claim lets the run draw from -/
abbrev lw_cs : List Choice := [Jvm.Choice.named "NaN.bits"]
theorem lw_bits : nanBits ∈ lw_cs := by first | decide | exact List.mem_cons_self | simp [lw_cs, nanBits]
-- ===== end of PART A; then your names; then what follows =====
/-! names: out of the printed NAMES (a text of the program itself) -/
def RX0 : String := "AlibiDeals$DealCount"
def TX0 : u_T := fun k => match k with
  | 0 => ("AlibiDeals$DealCount", "total", "I", false)
  | 1 => ("AlibiDeals$DealCount", "fresh", "Z", false)
  | 2 => ("AlibiDeals$DealCount", "cardAt", "[I", true)
  | 3 => ("AlibiDeals$DealCount", "inEnvelope", "[I", true)
  | 4 => ("AlibiDeals$DealCount", "withHand", "[I", true)
  | 5 => ("AlibiDeals$DealCount", "hinderedBy", "[I", true)
  | _ => ("AlibiDeals$DealCount", "some", "[I", true)
def tyX0 : Nat → FieldType := fun k => match k with
  | 0 => .int
  | 1 => .boolean
  | 2 => .array .int
  | 3 => .array .int
  | 4 => .array .int
  | 5 => .array .int
  | _ => .array .int
abbrev wsX00 : List Cond := u_ws RX0 TX0 7
theorem nmX0 : ∀ a, a < 7 → ∀ b, b < 7 → a ≠ b → (TX0 a).2.1 ≠ (TX0 b).2.1 := by decide +kernel
theorem tyX0_ok : ∀ k, k < 7 → parseFieldDescriptor (TX0 k).2.2.1 = some (tyX0 k) := by decide +kernel
abbrev cX0_init : ByteArray := prog_2_method_1_code
def yX0_init : MethodName := ⟨RX0, "<init>", "()V"⟩
abbrev cX0_count : ByteArray := prog_2_method_2_code
def yX0_count : MethodName := ⟨RX0, "count", "(LAlibiDeals$State;)V"⟩
abbrev cX0_clear : ByteArray := prog_2_method_3_code
def yX0_clear : MethodName := ⟨RX0, "clear", "([I)V"⟩
abbrev cX0_dealFrom : ByteArray := prog_2_method_4_code
def yX0_dealFrom : MethodName := ⟨RX0, "dealFrom", "(IILAlibiDeals$DealCount;LAlibiDeals$State;)V"⟩
abbrev cX0_hasRoom : ByteArray := prog_2_method_5_code
def yX0_hasRoom : MethodName := ⟨RX0, "hasRoom", "(II)Z"⟩
abbrev cX0_judge : ByteArray := prog_2_method_6_code
def yX0_judge : MethodName := ⟨RX0, "judge", "(ILAlibiDeals$State;)V"⟩
abbrev cX0_include : ByteArray := prog_2_method_7_code
def yX0_include : MethodName := ⟨RX0, "include", "(I)V"⟩
abbrev cX0_withCardAt : ByteArray := prog_2_method_8_code
def yX0_withCardAt : MethodName := ⟨RX0, "withCardAt", "(II)I"⟩
abbrev cX0_surePlace : ByteArray := prog_2_method_9_code
def yX0_surePlace : MethodName := ⟨RX0, "surePlace", "(I)I"⟩
abbrev cX0_sureCards : ByteArray := prog_2_method_10_code
def yX0_sureCards : MethodName := ⟨RX0, "sureCards", "()I"⟩
abbrev cX0_placesLeft : ByteArray := prog_2_method_11_code
def yX0_placesLeft : MethodName := ⟨RX0, "placesLeft", "()I"⟩
abbrev cX0_withEnvelope : ByteArray := prog_2_method_12_code
def yX0_withEnvelope : MethodName := ⟨RX0, "withEnvelope", "(I)I"⟩
abbrev cX0_envelopesLeft : ByteArray := prog_2_method_13_code
def yX0_envelopesLeft : MethodName := ⟨RX0, "envelopesLeft", "()I"⟩
abbrev cX0_likeliestEnvelope : ByteArray := prog_2_method_14_code
def yX0_likeliestEnvelope : MethodName := ⟨RX0, "likeliestEnvelope", "()I"⟩
abbrev cX0_shareOfLikeliest : ByteArray := prog_2_method_15_code
def yX0_shareOfLikeliest : MethodName := ⟨RX0, "shareOfLikeliest", "()D"⟩
abbrev cX0_withNone : ByteArray := prog_2_method_16_code
def yX0_withNone : MethodName := ⟨RX0, "withNone", "(II)I"⟩
abbrev cX0_behindQuestion : ByteArray := prog_2_method_17_code
def yX0_behindQuestion : MethodName := ⟨RX0, "behindQuestion", "(II)I"⟩
abbrev cX0_sharpestQuestion : ByteArray := prog_2_method_18_code
def yX0_sharpestQuestion : MethodName := ⟨RX0, "sharpestQuestion", "(I)I"⟩
abbrev cX0_withoutClue : ByteArray := prog_2_method_19_code
def yX0_withoutClue : MethodName := ⟨RX0, "withoutClue", "(I)I"⟩
abbrev cX0_idleAmong : ByteArray := prog_2_method_20_code
def yX0_idleAmong : MethodName := ⟨RX0, "idleAmong", "(I)I"⟩
def RX1 : String := "AlibiDeals$HandCount"
def TX1 : u_T := fun k => match k with
  | 0 => ("AlibiDeals$HandCount", "total", "I", false)
  | 1 => ("AlibiDeals$HandCount", "fresh", "Z", false)
  | _ => ("AlibiDeals$HandCount", "some", "[I", true)
def tyX1 : Nat → FieldType := fun k => match k with
  | 0 => .int
  | 1 => .boolean
  | _ => .array .int
abbrev wsX10 : List Cond := u_ws RX1 TX1 3
theorem nmX1 : ∀ a, a < 3 → ∀ b, b < 3 → a ≠ b → (TX1 a).2.1 ≠ (TX1 b).2.1 := by decide +kernel
theorem tyX1_ok : ∀ k, k < 3 → parseFieldDescriptor (TX1 k).2.2.1 = some (tyX1 k) := by decide +kernel
abbrev cX1_init : ByteArray := prog_3_method_1_code
def yX1_init : MethodName := ⟨RX1, "<init>", "()V"⟩
abbrev cX1_count : ByteArray := prog_3_method_2_code
def yX1_count : MethodName := ⟨RX1, "count", "(LAlibiDeals$State;)V"⟩
abbrev cX1_countHands : ByteArray := prog_3_method_3_code
def yX1_countHands : MethodName := ⟨RX1, "countHands", "(IILAlibiDeals$HandCount;LAlibiDeals$State;)I"⟩
def RX2 : String := "AlibiDeals$RuleSheet"
def TX2 : u_T := fun k => match k with
  | 0 => ("AlibiDeals$RuleSheet", "broken", "Z", false)
  | 1 => ("AlibiDeals$RuleSheet", "fresh", "Z", false)
  | _ => ("AlibiDeals$RuleSheet", "places", "[I", true)
def tyX2 : Nat → FieldType := fun k => match k with
  | 0 => .boolean
  | 1 => .boolean
  | _ => .array .int
abbrev wsX20 : List Cond := u_ws RX2 TX2 3
theorem nmX2 : ∀ a, a < 3 → ∀ b, b < 3 → a ≠ b → (TX2 a).2.1 ≠ (TX2 b).2.1 := by decide +kernel
theorem tyX2_ok : ∀ k, k < 3 → parseFieldDescriptor (TX2 k).2.2.1 = some (tyX2 k) := by decide +kernel
abbrev cX2_init : ByteArray := prog_4_method_1_code
def yX2_init : MethodName := ⟨RX2, "<init>", "()V"⟩
abbrev cX2_fill : ByteArray := prog_4_method_2_code
def yX2_fill : MethodName := ⟨RX2, "fill", "(LAlibiDeals$State;)V"⟩
abbrev cX2_setAll : ByteArray := prog_4_method_3_code
def yX2_setAll : MethodName := ⟨RX2, "setAll", "(I)V"⟩
abbrev cX2_placesLeft : ByteArray := prog_4_method_4_code
def yX2_placesLeft : MethodName := ⟨RX2, "placesLeft", "()I"⟩
abbrev cX2_onlyPlace : ByteArray := prog_4_method_6_code
def yX2_onlyPlace : MethodName := ⟨RX2, "onlyPlace", "(I)I"⟩
abbrev cX2_applyClues : ByteArray := prog_4_method_7_code
def yX2_applyClues : MethodName := ⟨RX2, "applyClues", "(LAlibiDeals$State;)V"⟩
abbrev cX2_applyClue : ByteArray := prog_4_method_8_code
def yX2_applyClue : MethodName := ⟨RX2, "applyClue", "(III)V"⟩
abbrev cX2_applyKinds : ByteArray := prog_4_method_9_code
def yX2_applyKinds : MethodName := ⟨RX2, "applyKinds", "()V"⟩
abbrev cX2_applyPlayers : ByteArray := prog_4_method_10_code
def yX2_applyPlayers : MethodName := ⟨RX2, "applyPlayers", "()V"⟩
abbrev cX2_crossIfSure : ByteArray := prog_4_method_11_code
def yX2_crossIfSure : MethodName := ⟨RX2, "crossIfSure", "(III)V"⟩
abbrev cX2_keepIfJust : ByteArray := prog_4_method_12_code
def yX2_keepIfJust : MethodName := ⟨RX2, "keepIfJust", "(III)V"⟩
abbrev cX2_keepOnly : ByteArray := prog_4_method_13_code
def yX2_keepOnly : MethodName := ⟨RX2, "keepOnly", "(II)V"⟩
abbrev cX2_crossOff : ByteArray := prog_4_method_14_code
def yX2_crossOff : MethodName := ⟨RX2, "crossOff", "(II)V"⟩
abbrev cX2_withPlace : ByteArray := prog_4_method_15_code
def yX2_withPlace : MethodName := ⟨RX2, "withPlace", "(II)I"⟩
abbrev cX2_withOnly : ByteArray := prog_4_method_16_code
def yX2_withOnly : MethodName := ⟨RX2, "withOnly", "(II)I"⟩
abbrev cX2_breaksDown : ByteArray := prog_4_method_17_code
def yX2_breaksDown : MethodName := ⟨RX2, "breaksDown", "()Z"⟩
abbrev cX2_fits : ByteArray := prog_4_method_18_code
def yX2_fits : MethodName := ⟨RX2, "fits", "(III)Z"⟩
abbrev cX2_breaksClue : ByteArray := prog_4_method_19_code
def yX2_breaksClue : MethodName := ⟨RX2, "breaksClue", "(LAlibiDeals$State;)Z"⟩
def RX3 : String := "AlibiDeals$State"
def TX3 : u_T := fun k => match k with
  | 0 => ("AlibiDeals$State", "deal", "[I", true)
  | 1 => ("AlibiDeals$State", "kind", "[I", true)
  | 2 => ("AlibiDeals$State", "place", "[I", true)
  | 3 => ("AlibiDeals$State", "cards", "[I", true)
  | 4 => ("AlibiDeals$State", "count", "I", false)
  | 5 => ("AlibiDeals$State", "part", "I", false)
  | _ => ("AlibiDeals$State", "why", "I", false)
def tyX3 : Nat → FieldType := fun k => match k with
  | 0 => .array .int
  | 1 => .array .int
  | 2 => .array .int
  | 3 => .array .int
  | 4 => .int
  | 5 => .int
  | _ => .int
abbrev wsX30 : List Cond := u_ws RX3 TX3 7
theorem nmX3 : ∀ a, a < 7 → ∀ b, b < 7 → a ≠ b → (TX3 a).2.1 ≠ (TX3 b).2.1 := by decide +kernel
theorem tyX3_ok : ∀ k, k < 7 → parseFieldDescriptor (TX3 k).2.2.1 = some (tyX3 k) := by decide +kernel
abbrev cX3_init : ByteArray := prog_5_method_1_code
def yX3_init : MethodName := ⟨RX3, "<init>", "()V"⟩
abbrev cX3_dealAtFirst : ByteArray := prog_5_method_2_code
def yX3_dealAtFirst : MethodName := ⟨RX3, "dealAtFirst", "()V"⟩
abbrev cX3_copyFrom : ByteArray := prog_5_method_3_code
def yX3_copyFrom : MethodName := ⟨RX3, "copyFrom", "(LAlibiDeals$State;)V"⟩
abbrev cX3_add : ByteArray := prog_5_method_4_code
def yX3_add : MethodName := ⟨RX3, "add", "(III)V"⟩
abbrev cX3_remove : ByteArray := prog_5_method_5_code
def yX3_remove : MethodName := ⟨RX3, "remove", "(I)V"⟩
abbrev cX3_addAnswer : ByteArray := prog_5_method_6_code
def yX3_addAnswer : MethodName := ⟨RX3, "addAnswer", "(II)Z"⟩
abbrev cX3_addSight : ByteArray := prog_5_method_7_code
def yX3_addSight : MethodName := ⟨RX3, "addSight", "(II)I"⟩
abbrev cX3_addVerdict : ByteArray := prog_5_method_8_code
def yX3_addVerdict : MethodName := ⟨RX3, "addVerdict", "(I)Z"⟩
abbrev cX3_handOf : ByteArray := prog_5_method_9_code
def yX3_handOf : MethodName := ⟨RX3, "handOf", "(II)I"⟩
abbrev cX3_placeOf : ByteArray := prog_5_method_10_code
def yX3_placeOf : MethodName := ⟨RX3, "placeOf", "(I)I"⟩
abbrev cX3_agrees : ByteArray := prog_5_method_11_code
def yX3_agrees : MethodName := ⟨RX3, "agrees", "(I[I)Z"⟩
abbrev cX3_agreesWithAll : ByteArray := prog_5_method_12_code
def yX3_agreesWithAll : MethodName := ⟨RX3, "agreesWithAll", "([I)Z"⟩
def RX4 : String := "AlibiDeals$TextReader"
def TX4 : u_T := fun k => match k with
  | 0 => ("AlibiDeals$TextReader", "letter", "I", false)
  | 1 => ("AlibiDeals$TextReader", "player", "I", false)
  | 2 => ("AlibiDeals$TextReader", "number", "I", false)
  | _ => ("AlibiDeals$TextReader", "step", "I", false)
def tyX4 : Nat → FieldType := fun k => match k with
  | 0 => .int
  | 1 => .int
  | 2 => .int
  | _ => .int
abbrev wsX40 : List Cond := u_ws RX4 TX4 4
theorem nmX4 : ∀ a, a < 4 → ∀ b, b < 4 → a ≠ b → (TX4 a).2.1 ≠ (TX4 b).2.1 := by decide +kernel
theorem tyX4_ok : ∀ k, k < 4 → parseFieldDescriptor (TX4 k).2.2.1 = some (tyX4 k) := by decide +kernel
abbrev cX4_init : ByteArray := prog_6_method_1_code
def yX4_init : MethodName := ⟨RX4, "<init>", "()V"⟩
def RX5 : String := "AlibiDeals"
def TX5 : u_T := fun k => match k with
  | 0 => ("AlibiDeals", "now", "LAlibiDeals$State;", true)
  | 1 => ("AlibiDeals", "snapshot", "LAlibiDeals$State;", true)
  | 2 => ("AlibiDeals", "saved", "[LAlibiDeals$State;", true)
  | 3 => ("AlibiDeals", "buffer", "[I", true)
  | 4 => ("AlibiDeals", "reader", "LAlibiDeals$TextReader;", true)
  | 5 => ("AlibiDeals", "dealCount", "LAlibiDeals$DealCount;", true)
  | 6 => ("AlibiDeals", "handCount", "LAlibiDeals$HandCount;", true)
  | 7 => ("AlibiDeals", "ruleSheet", "LAlibiDeals$RuleSheet;", true)
  | 8 => ("AlibiDeals", "savedCount", "I", false)
  | 9 => ("AlibiDeals", "hasSnapshot", "Z", false)
  | _ => ("AlibiDeals", "length", "I", false)
def tyX5 : Nat → FieldType := fun k => match k with
  | 0 => .object "AlibiDeals$State"
  | 1 => .object "AlibiDeals$State"
  | 2 => .array (.object "AlibiDeals$State")
  | 3 => .array .int
  | 4 => .object "AlibiDeals$TextReader"
  | 5 => .object "AlibiDeals$DealCount"
  | 6 => .object "AlibiDeals$HandCount"
  | 7 => .object "AlibiDeals$RuleSheet"
  | 8 => .int
  | 9 => .boolean
  | _ => .int
abbrev wsX50 : List Cond := u_ws RX5 TX5 11
theorem nmX5 : ∀ a, a < 11 → ∀ b, b < 11 → a ≠ b → (TX5 a).2.1 ≠ (TX5 b).2.1 := by decide +kernel
theorem tyX5_ok : ∀ k, k < 11 → parseFieldDescriptor (TX5 k).2.2.1 = some (tyX5 k) := by decide +kernel
abbrev cX5_init : ByteArray := prog_1_method_1_code
def yX5_init : MethodName := ⟨RX5, "<init>", "()V"⟩
abbrev cX5_exchange : ByteArray := prog_1_method_2_code
def yX5_exchange : MethodName := ⟨RX5, "exchange", "(II)I"⟩
abbrev cX5_noteHas : ByteArray := prog_1_method_3_code
def yX5_noteHas : MethodName := ⟨RX5, "noteHas", "(II)I"⟩
abbrev cX5_noteLacks : ByteArray := prog_1_method_4_code
def yX5_noteLacks : MethodName := ⟨RX5, "noteLacks", "(II)I"⟩
abbrev cX5_noteShows : ByteArray := prog_1_method_5_code
def yX5_noteShows : MethodName := ⟨RX5, "noteShows", "(IIII)I"⟩
abbrev cX5_dropClue : ByteArray := prog_1_method_6_code
def yX5_dropClue : MethodName := ⟨RX5, "dropClue", "(I)I"⟩
abbrev cX5_dropAll : ByteArray := prog_1_method_7_code
def yX5_dropAll : MethodName := ⟨RX5, "dropAll", "()I"⟩
abbrev cX5_ask : ByteArray := prog_1_method_8_code
def yX5_ask : MethodName := ⟨RX5, "ask", "(IIII)Z"⟩
abbrev cX5_look : ByteArray := prog_1_method_9_code
def yX5_look : MethodName := ⟨RX5, "look", "(IIII)I"⟩
abbrev cX5_accuse : ByteArray := prog_1_method_10_code
def yX5_accuse : MethodName := ⟨RX5, "accuse", "(III)Z"⟩
abbrev cX5_hasStopped : ByteArray := prog_1_method_15_code
def yX5_hasStopped : MethodName := ⟨RX5, "hasStopped", "()Z"⟩
abbrev cX5_stoppedPart : ByteArray := prog_1_method_16_code
def yX5_stoppedPart : MethodName := ⟨RX5, "stoppedPart", "()I"⟩
abbrev cX5_whyStopped : ByteArray := prog_1_method_17_code
def yX5_whyStopped : MethodName := ⟨RX5, "whyStopped", "()I"⟩
abbrev cX5_undo : ByteArray := prog_1_method_18_code
def yX5_undo : MethodName := ⟨RX5, "undo", "()I"⟩
abbrev cX5_savedStates : ByteArray := prog_1_method_21_code
def yX5_savedStates : MethodName := ⟨RX5, "savedStates", "()I"⟩
abbrev cX5_truePlace : ByteArray := prog_1_method_22_code
def yX5_truePlace : MethodName := ⟨RX5, "truePlace", "(I)I"⟩
abbrev cX5_trueEnvelope : ByteArray := prog_1_method_23_code
def yX5_trueEnvelope : MethodName := ⟨RX5, "trueEnvelope", "()I"⟩
abbrev cX5_clues : ByteArray := prog_1_method_24_code
def yX5_clues : MethodName := ⟨RX5, "clues", "()I"⟩
abbrev cX5_kindOf : ByteArray := prog_1_method_25_code
def yX5_kindOf : MethodName := ⟨RX5, "kindOf", "(I)I"⟩
abbrev cX5_playerOf : ByteArray := prog_1_method_26_code
def yX5_playerOf : MethodName := ⟨RX5, "playerOf", "(I)I"⟩
abbrev cX5_cardsOf : ByteArray := prog_1_method_27_code
def yX5_cardsOf : MethodName := ⟨RX5, "cardsOf", "(I)I"⟩
abbrev cX5_untrueClues : ByteArray := prog_1_method_29_code
def yX5_untrueClues : MethodName := ⟨RX5, "untrueClues", "()I"⟩
abbrev cX5_deals : ByteArray := prog_1_method_30_code
def yX5_deals : MethodName := ⟨RX5, "deals", "()I"⟩
abbrev cX5_dealsByHands : ByteArray := prog_1_method_31_code
def yX5_dealsByHands : MethodName := ⟨RX5, "dealsByHands", "()I"⟩
abbrev cX5_dealsWith : ByteArray := prog_1_method_32_code
def yX5_dealsWith : MethodName := ⟨RX5, "dealsWith", "(II)I"⟩
abbrev cX5_certainPlace : ByteArray := prog_1_method_34_code
def yX5_certainPlace : MethodName := ⟨RX5, "certainPlace", "(I)I"⟩
abbrev cX5_certainCards : ByteArray := prog_1_method_35_code
def yX5_certainCards : MethodName := ⟨RX5, "certainCards", "()I"⟩
abbrev cX5_isBroken : ByteArray := prog_1_method_36_code
def yX5_isBroken : MethodName := ⟨RX5, "isBroken", "()Z"⟩
abbrev cX5_placeByRules : ByteArray := prog_1_method_38_code
def yX5_placeByRules : MethodName := ⟨RX5, "placeByRules", "(I)I"⟩
abbrev cX5_crossedOff : ByteArray := prog_1_method_39_code
def yX5_crossedOff : MethodName := ⟨RX5, "crossedOff", "()I"⟩
abbrev cX5_hiddenCrosses : ByteArray := prog_1_method_40_code
def yX5_hiddenCrosses : MethodName := ⟨RX5, "hiddenCrosses", "()I"⟩
abbrev cX5_envelopeDeals : ByteArray := prog_1_method_41_code
def yX5_envelopeDeals : MethodName := ⟨RX5, "envelopeDeals", "(I)I"⟩
abbrev cX5_envelopes : ByteArray := prog_1_method_42_code
def yX5_envelopes : MethodName := ⟨RX5, "envelopes", "()I"⟩
abbrev cX5_bestAccusation : ByteArray := prog_1_method_43_code
def yX5_bestAccusation : MethodName := ⟨RX5, "bestAccusation", "()I"⟩
abbrev cX5_isSolved : ByteArray := prog_1_method_44_code
def yX5_isSolved : MethodName := ⟨RX5, "isSolved", "()Z"⟩
abbrev cX5_leftBy : ByteArray := prog_1_method_46_code
def yX5_leftBy : MethodName := ⟨RX5, "leftBy", "(II)I"⟩
abbrev cX5_bestQuestion : ByteArray := prog_1_method_47_code
def yX5_bestQuestion : MethodName := ⟨RX5, "bestQuestion", "(I)I"⟩
abbrev cX5_idleClues : ByteArray := prog_1_method_49_code
def yX5_idleClues : MethodName := ⟨RX5, "idleClues", "()I"⟩
abbrev cX5_chance : ByteArray := prog_1_method_50_code
def yX5_chance : MethodName := ⟨RX5, "chance", "()D"⟩
abbrev cX5_remember : ByteArray := prog_1_method_64_code
def yX5_remember : MethodName := ⟨RX5, "remember", "()V"⟩
abbrev cX5_dropOldest : ByteArray := prog_1_method_65_code
def yX5_dropOldest : MethodName := ⟨RX5, "dropOldest", "()V"⟩
abbrev cX5_forgetCounts : ByteArray := prog_1_method_66_code
def yX5_forgetCounts : MethodName := ⟨RX5, "forgetCounts", "()V"⟩
abbrev cX5_countedDeals : ByteArray := prog_1_method_67_code
def yX5_countedDeals : MethodName := ⟨RX5, "countedDeals", "()LAlibiDeals$DealCount;"⟩
abbrev cX5_filledSheet : ByteArray := prog_1_method_68_code
def yX5_filledSheet : MethodName := ⟨RX5, "filledSheet", "()LAlibiDeals$RuleSheet;"⟩
abbrev cX5_countedHands : ByteArray := prog_1_method_69_code
def yX5_countedHands : MethodName := ⟨RX5, "countedHands", "()LAlibiDeals$HandCount;"⟩
abbrev cX5_checkCard : ByteArray := prog_1_method_70_code
def yX5_checkCard : MethodName := ⟨RX5, "checkCard", "(I)V"⟩
abbrev cX5_checkPlayer : ByteArray := prog_1_method_71_code
def yX5_checkPlayer : MethodName := ⟨RX5, "checkPlayer", "(I)V"⟩
abbrev cX5_checkPlace : ByteArray := prog_1_method_72_code
def yX5_checkPlace : MethodName := ⟨RX5, "checkPlace", "(I)V"⟩
abbrev cX5_checkTriple : ByteArray := prog_1_method_73_code
def yX5_checkTriple : MethodName := ⟨RX5, "checkTriple", "(I)V"⟩
abbrev cX5_checkCards : ByteArray := prog_1_method_74_code
def yX5_checkCards : MethodName := ⟨RX5, "checkCards", "(III)V"⟩
abbrev cX5_checkClue : ByteArray := prog_1_method_75_code
def yX5_checkClue : MethodName := ⟨RX5, "checkClue", "(I)V"⟩
abbrev cX5_checkRoomForClue : ByteArray := prog_1_method_76_code
def yX5_checkRoomForClue : MethodName := ⟨RX5, "checkRoomForClue", "()V"⟩
abbrev cX5_checkStopped : ByteArray := prog_1_method_77_code
def yX5_checkStopped : MethodName := ⟨RX5, "checkStopped", "()V"⟩
abbrev cX5_checkSome : ByteArray := prog_1_method_78_code
def yX5_checkSome : MethodName := ⟨RX5, "checkSome", "(I)V"⟩
abbrev cX5_mask : ByteArray := prog_1_method_79_code
def yX5_mask : MethodName := ⟨RX5, "mask", "(III)I"⟩
abbrev cX5_cardsOfKind : ByteArray := prog_1_method_80_code
def yX5_cardsOfKind : MethodName := ⟨RX5, "cardsOfKind", "(I)I"⟩
abbrev cX5_cardsOfTriple : ByteArray := prog_1_method_81_code
def yX5_cardsOfTriple : MethodName := ⟨RX5, "cardsOfTriple", "(I)I"⟩
abbrev cX5_numberOfTriple : ByteArray := prog_1_method_82_code
def yX5_numberOfTriple : MethodName := ⟨RX5, "numberOfTriple", "(I)I"⟩
abbrev cX5_isTriple : ByteArray := prog_1_method_83_code
def yX5_isTriple : MethodName := ⟨RX5, "isTriple", "(I)Z"⟩
abbrev cX5_exchanged : ByteArray := prog_1_method_84_code
def yX5_exchanged : MethodName := ⟨RX5, "exchanged", "(III)I"⟩
def RX6 : String := "AlibiDealsModel"
def TX6 : u_T := fun k => match k with
  | _ => ("", "", "", false)
def tyX6 : Nat → FieldType := fun k => match k with
  | _ => .int
abbrev wsX60 : List Cond := u_ws RX6 TX6 0
theorem nmX6 : ∀ a, a < 0 → ∀ b, b < 0 → a ≠ b → (TX6 a).2.1 ≠ (TX6 b).2.1 := by decide +kernel
theorem tyX6_ok : ∀ k, k < 0 → parseFieldDescriptor (TX6 k).2.2.1 = some (tyX6 k) := by decide +kernel
def RJ6 : String := "java/lang/Integer"
abbrev cJ6_bitCount_0f7a4 : ByteArray := prog_12_method_49_code
def yJ6_bitCount_0f7a4 : MethodName := ⟨RJ6, "bitCount", "(I)I"⟩
def RJ9 : String := "java/lang/Math"
abbrev cJ9_max_7cf53 : ByteArray := prog_13_method_65_code
def yJ9_max_7cf53 : MethodName := ⟨RJ9, "max", "(II)I"⟩
def RL : String := "AlibiDealsLaw"
abbrev cL_cell : ByteArray := method_2_code
def yL_cell : MethodName := ⟨RL, "cell", "([II)I"⟩
abbrev cL_low : ByteArray := method_3_code
def yL_low : MethodName := ⟨RL, "low", "(II)I"⟩
abbrev cL_told : ByteArray := method_4_code
def yL_told : MethodName := ⟨RL, "told", "(LAlibiDeals;)J"⟩
abbrev cL_act : ByteArray := method_5_code
def yL_act : MethodName := ⟨RL, "act", "(LAlibiDeals;II)Z"⟩
abbrev cL_holds : ByteArray := method_6_code
def yL_holds : MethodName := ⟨RL, "holds", "(LAlibiDeals;II)Z"⟩
abbrev cL_law : ByteArray := code
def yL_law : MethodName := ⟨RL, "law", "([I)Z"⟩
abbrev vwCl : List vw_C := [(RX0, TX0, 7), (RX1, TX1, 3), (RX2, TX2, 3), (RX3, TX3, 7), (RX4, TX4, 4), (RX5, TX5, 11)]
