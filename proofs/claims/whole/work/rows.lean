section
-- ===== PART A: goes FIRST, ahead of the names: the tables' words, and 'selects' of the private methods out of them =====
/-- a private method of a class that the tables say can be made, by its rows of tables_1 -/
def lw_okq (q : MethodName × Nat) : Prop := (q.1.cls ≠ "java/lang/invoke/MethodHandle" ∧ q.1.cls ≠ "java/lang/invoke/VarHandle") ∧ Cond.instantiable q.1.cls q.2 ∈ tables_1 ∧ Cond.privateMethod q.1 ∈ tables_1 ∧ Cond.instanceMethod q.1 ∈ tables_1
theorem lw_p0 : lw_okq (⟨"PhraseReader$Bytes", "append", "(I)Z"⟩, 2) := ⟨⟨by decide +kernel, by decide +kernel⟩, List.mem_of_getElem? (i := 20) (by decide +kernel), List.mem_of_getElem? (i := 189) (by decide +kernel), List.mem_of_getElem? (i := 190) (by decide +kernel)⟩
theorem lw_p1 : lw_okq (⟨"PhraseReader$Reading", "forget", "()V"⟩, 8) := ⟨⟨by decide +kernel, by decide +kernel⟩, List.mem_of_getElem? (i := 112) (by decide +kernel), List.mem_of_getElem? (i := 193) (by decide +kernel), List.mem_of_getElem? (i := 194) (by decide +kernel)⟩
theorem lw_p2 : lw_okq (⟨"PhraseReader$Bytes", "clear", "()V"⟩, 2) := ⟨⟨by decide +kernel, by decide +kernel⟩, List.mem_of_getElem? (i := 20) (by decide +kernel), List.mem_of_getElem? (i := 201) (by decide +kernel), List.mem_of_getElem? (i := 202) (by decide +kernel)⟩
theorem lw_p3 : lw_okq (⟨"PhraseReader$Bytes", "asWord", "()I"⟩, 2) := ⟨⟨by decide +kernel, by decide +kernel⟩, List.mem_of_getElem? (i := 20) (by decide +kernel), List.mem_of_getElem? (i := 212) (by decide +kernel), List.mem_of_getElem? (i := 213) (by decide +kernel)⟩
theorem lw_p4 : lw_okq (⟨"PhraseReader$Bytes", "at", "(I)I"⟩, 2) := ⟨⟨by decide +kernel, by decide +kernel⟩, List.mem_of_getElem? (i := 20) (by decide +kernel), List.mem_of_getElem? (i := 216) (by decide +kernel), List.mem_of_getElem? (i := 217) (by decide +kernel)⟩
theorem lw_p5 : lw_okq (⟨"PhraseReader$Declarations", "hasWord", "(I)Z"⟩, 4) := ⟨⟨by decide +kernel, by decide +kernel⟩, List.mem_of_getElem? (i := 36) (by decide +kernel), List.mem_of_getElem? (i := 223) (by decide +kernel), List.mem_of_getElem? (i := 224) (by decide +kernel)⟩
theorem lw_p6 : lw_okq (⟨"PhraseReader$Declarations", "at", "(I)LPhraseReader$Member;"⟩, 4) := ⟨⟨by decide +kernel, by decide +kernel⟩, List.mem_of_getElem? (i := 36) (by decide +kernel), List.mem_of_getElem? (i := 227) (by decide +kernel), List.mem_of_getElem? (i := 228) (by decide +kernel)⟩
theorem lw_p7 : lw_okq (⟨"PhraseReader", "beginChange", "()V"⟩, 8) := ⟨⟨by decide +kernel, by decide +kernel⟩, List.mem_of_getElem? (i := 12) (by decide +kernel), List.mem_of_getElem? (i := 231) (by decide +kernel), List.mem_of_getElem? (i := 232) (by decide +kernel)⟩
theorem lw_p8 : lw_okq (⟨"PhraseReader$History", "record", "(LPhraseReader$Declarations;)V"⟩, 2) := ⟨⟨by decide +kernel, by decide +kernel⟩, List.mem_of_getElem? (i := 95) (by decide +kernel), List.mem_of_getElem? (i := 235) (by decide +kernel), List.mem_of_getElem? (i := 236) (by decide +kernel)⟩
theorem lw_p9 : lw_okq (⟨"PhraseReader$History", "dropOldest", "()V"⟩, 2) := ⟨⟨by decide +kernel, by decide +kernel⟩, List.mem_of_getElem? (i := 95) (by decide +kernel), List.mem_of_getElem? (i := 239) (by decide +kernel), List.mem_of_getElem? (i := 240) (by decide +kernel)⟩
theorem lw_p10 : lw_okq (⟨"PhraseReader$Declarations", "copyFrom", "(LPhraseReader$Declarations;)V"⟩, 4) := ⟨⟨by decide +kernel, by decide +kernel⟩, List.mem_of_getElem? (i := 36) (by decide +kernel), List.mem_of_getElem? (i := 243) (by decide +kernel), List.mem_of_getElem? (i := 244) (by decide +kernel)⟩
theorem lw_p11 : lw_okq (⟨"PhraseReader$Member", "copyFrom", "(LPhraseReader$Member;)V"⟩, 6) := ⟨⟨by decide +kernel, by decide +kernel⟩, List.mem_of_getElem? (i := 43) (by decide +kernel), List.mem_of_getElem? (i := 247) (by decide +kernel), List.mem_of_getElem? (i := 248) (by decide +kernel)⟩
theorem lw_p12 : lw_okq (⟨"PhraseReader", "forgetTables", "()V"⟩, 8) := ⟨⟨by decide +kernel, by decide +kernel⟩, List.mem_of_getElem? (i := 12) (by decide +kernel), List.mem_of_getElem? (i := 251) (by decide +kernel), List.mem_of_getElem? (i := 252) (by decide +kernel)⟩
theorem lw_p13 : lw_okq (⟨"PhraseReader$OrderTable", "forget", "()V"⟩, 2) := ⟨⟨by decide +kernel, by decide +kernel⟩, List.mem_of_getElem? (i := 147) (by decide +kernel), List.mem_of_getElem? (i := 255) (by decide +kernel), List.mem_of_getElem? (i := 256) (by decide +kernel)⟩
theorem lw_p14 : lw_okq (⟨"PhraseReader$Declarations", "add", "(IIII)I"⟩, 4) := ⟨⟨by decide +kernel, by decide +kernel⟩, List.mem_of_getElem? (i := 36) (by decide +kernel), List.mem_of_getElem? (i := 259) (by decide +kernel), List.mem_of_getElem? (i := 260) (by decide +kernel)⟩
theorem lw_p15 : lw_okq (⟨"PhraseReader$Declarations", "has", "(I)Z"⟩, 4) := ⟨⟨by decide +kernel, by decide +kernel⟩, List.mem_of_getElem? (i := 36) (by decide +kernel), List.mem_of_getElem? (i := 267) (by decide +kernel), List.mem_of_getElem? (i := 268) (by decide +kernel)⟩
def lw_privs_1 : List (MethodName × Nat) := [(⟨"PhraseReader$Bytes", "append", "(I)Z"⟩, 2), (⟨"PhraseReader$Reading", "forget", "()V"⟩, 8), (⟨"PhraseReader$Bytes", "clear", "()V"⟩, 2), (⟨"PhraseReader$Bytes", "asWord", "()I"⟩, 2), (⟨"PhraseReader$Bytes", "at", "(I)I"⟩, 2), (⟨"PhraseReader$Declarations", "hasWord", "(I)Z"⟩, 4), (⟨"PhraseReader$Declarations", "at", "(I)LPhraseReader$Member;"⟩, 4), (⟨"PhraseReader", "beginChange", "()V"⟩, 8), (⟨"PhraseReader$History", "record", "(LPhraseReader$Declarations;)V"⟩, 2), (⟨"PhraseReader$History", "dropOldest", "()V"⟩, 2), (⟨"PhraseReader$Declarations", "copyFrom", "(LPhraseReader$Declarations;)V"⟩, 4), (⟨"PhraseReader$Member", "copyFrom", "(LPhraseReader$Member;)V"⟩, 6), (⟨"PhraseReader", "forgetTables", "()V"⟩, 8), (⟨"PhraseReader$OrderTable", "forget", "()V"⟩, 2), (⟨"PhraseReader$Declarations", "add", "(IIII)I"⟩, 4), (⟨"PhraseReader$Declarations", "has", "(I)Z"⟩, 4)]
theorem lw_r1 : ∀ q ∈ lw_privs_1, lw_okq q := List.forall_mem_cons.mpr ⟨lw_p0, List.forall_mem_cons.mpr ⟨lw_p1, List.forall_mem_cons.mpr ⟨lw_p2, List.forall_mem_cons.mpr ⟨lw_p3, List.forall_mem_cons.mpr ⟨lw_p4, List.forall_mem_cons.mpr ⟨lw_p5, List.forall_mem_cons.mpr ⟨lw_p6, List.forall_mem_cons.mpr ⟨lw_p7, List.forall_mem_cons.mpr ⟨lw_p8, List.forall_mem_cons.mpr ⟨lw_p9, List.forall_mem_cons.mpr ⟨lw_p10, List.forall_mem_cons.mpr ⟨lw_p11, List.forall_mem_cons.mpr ⟨lw_p12, List.forall_mem_cons.mpr ⟨lw_p13, List.forall_mem_cons.mpr ⟨lw_p14, List.forall_mem_cons.mpr ⟨lw_p15, fun _ h => absurd h List.not_mem_nil⟩⟩⟩⟩⟩⟩⟩⟩⟩⟩⟩⟩⟩⟩⟩⟩
theorem lw_p16 : lw_okq (⟨"PhraseReader$Declarations", "takeOut", "(I)V"⟩, 4) := ⟨⟨by decide +kernel, by decide +kernel⟩, List.mem_of_getElem? (i := 36) (by decide +kernel), List.mem_of_getElem? (i := 271) (by decide +kernel), List.mem_of_getElem? (i := 272) (by decide +kernel)⟩
theorem lw_p17 : lw_okq (⟨"PhraseReader$Declarations", "reseat", "(II)V"⟩, 4) := ⟨⟨by decide +kernel, by decide +kernel⟩, List.mem_of_getElem? (i := 36) (by decide +kernel), List.mem_of_getElem? (i := 276) (by decide +kernel), List.mem_of_getElem? (i := 277) (by decide +kernel)⟩
theorem lw_p18 : lw_okq (⟨"PhraseReader$Member", "accepts", "(II)Z"⟩, 6) := ⟨⟨by decide +kernel, by decide +kernel⟩, List.mem_of_getElem? (i := 43) (by decide +kernel), List.mem_of_getElem? (i := 295) (by decide +kernel), List.mem_of_getElem? (i := 296) (by decide +kernel)⟩
theorem lw_p19 : lw_okq (⟨"PhraseReader$Member", "exchange", "(II)I"⟩, 6) := ⟨⟨by decide +kernel, by decide +kernel⟩, List.mem_of_getElem? (i := 43) (by decide +kernel), List.mem_of_getElem? (i := 300) (by decide +kernel), List.mem_of_getElem? (i := 301) (by decide +kernel)⟩
theorem lw_p20 : lw_okq (⟨"PhraseReader$Member", "property", "(I)I"⟩, 6) := ⟨⟨by decide +kernel, by decide +kernel⟩, List.mem_of_getElem? (i := 43) (by decide +kernel), List.mem_of_getElem? (i := 304) (by decide +kernel), List.mem_of_getElem? (i := 305) (by decide +kernel)⟩
theorem lw_p21 : lw_okq (⟨"PhraseReader$History", "restore", "(LPhraseReader$Declarations;)V"⟩, 2) := ⟨⟨by decide +kernel, by decide +kernel⟩, List.mem_of_getElem? (i := 95) (by decide +kernel), List.mem_of_getElem? (i := 328) (by decide +kernel), List.mem_of_getElem? (i := 329) (by decide +kernel)⟩
theorem lw_p22 : lw_okq (⟨"PhraseReader$Declarations", "countRules", "()I"⟩, 4) := ⟨⟨by decide +kernel, by decide +kernel⟩, List.mem_of_getElem? (i := 36) (by decide +kernel), List.mem_of_getElem? (i := 336) (by decide +kernel), List.mem_of_getElem? (i := 337) (by decide +kernel)⟩
theorem lw_p23 : lw_okq (⟨"PhraseReader$Declarations", "countClashingPairs", "()I"⟩, 4) := ⟨⟨by decide +kernel, by decide +kernel⟩, List.mem_of_getElem? (i := 36) (by decide +kernel), List.mem_of_getElem? (i := 346) (by decide +kernel), List.mem_of_getElem? (i := 347) (by decide +kernel)⟩
theorem lw_p24 : lw_okq (⟨"PhraseReader$Declarations", "clashesOf", "(I)I"⟩, 4) := ⟨⟨by decide +kernel, by decide +kernel⟩, List.mem_of_getElem? (i := 36) (by decide +kernel), List.mem_of_getElem? (i := 350) (by decide +kernel), List.mem_of_getElem? (i := 351) (by decide +kernel)⟩
theorem lw_p25 : lw_okq (⟨"PhraseReader$Member", "clashesWith", "(LPhraseReader$Member;)Z"⟩, 6) := ⟨⟨by decide +kernel, by decide +kernel⟩, List.mem_of_getElem? (i := 43) (by decide +kernel), List.mem_of_getElem? (i := 354) (by decide +kernel), List.mem_of_getElem? (i := 355) (by decide +kernel)⟩
theorem lw_p26 : lw_okq (⟨"PhraseReader$Member", "wordLength", "()I"⟩, 6) := ⟨⟨by decide +kernel, by decide +kernel⟩, List.mem_of_getElem? (i := 43) (by decide +kernel), List.mem_of_getElem? (i := 358) (by decide +kernel), List.mem_of_getElem? (i := 359) (by decide +kernel)⟩
theorem lw_p27 : lw_okq (⟨"PhraseReader$Declarations", "leastOccurrences", "()I"⟩, 4) := ⟨⟨by decide +kernel, by decide +kernel⟩, List.mem_of_getElem? (i := 36) (by decide +kernel), List.mem_of_getElem? (i := 367) (by decide +kernel), List.mem_of_getElem? (i := 368) (by decide +kernel)⟩
theorem lw_p28 : lw_okq (⟨"PhraseReader$Declarations", "mostOccurrences", "()I"⟩, 4) := ⟨⟨by decide +kernel, by decide +kernel⟩, List.mem_of_getElem? (i := 36) (by decide +kernel), List.mem_of_getElem? (i := 371) (by decide +kernel), List.mem_of_getElem? (i := 372) (by decide +kernel)⟩
theorem lw_p29 : lw_okq (⟨"PhraseReader$Member", "letter", "(I)I"⟩, 6) := ⟨⟨by decide +kernel, by decide +kernel⟩, List.mem_of_getElem? (i := 43) (by decide +kernel), List.mem_of_getElem? (i := 380) (by decide +kernel), List.mem_of_getElem? (i := 381) (by decide +kernel)⟩
theorem lw_p30 : lw_okq (⟨"PhraseReader$Reading", "learn", "(LPhraseReader$Declarations;LPhraseReader$Bytes;)V"⟩, 8) := ⟨⟨by decide +kernel, by decide +kernel⟩, List.mem_of_getElem? (i := 112) (by decide +kernel), List.mem_of_getElem? (i := 390) (by decide +kernel), List.mem_of_getElem? (i := 391) (by decide +kernel)⟩
theorem lw_p31 : lw_okq (⟨"PhraseReader$Reading", "findEnds", "(LPhraseReader$Declarations;LPhraseReader$Bytes;)V"⟩, 8) := ⟨⟨by decide +kernel, by decide +kernel⟩, List.mem_of_getElem? (i := 112) (by decide +kernel), List.mem_of_getElem? (i := 394) (by decide +kernel), List.mem_of_getElem? (i := 395) (by decide +kernel)⟩
def lw_privs_2 : List (MethodName × Nat) := [(⟨"PhraseReader$Declarations", "takeOut", "(I)V"⟩, 4), (⟨"PhraseReader$Declarations", "reseat", "(II)V"⟩, 4), (⟨"PhraseReader$Member", "accepts", "(II)Z"⟩, 6), (⟨"PhraseReader$Member", "exchange", "(II)I"⟩, 6), (⟨"PhraseReader$Member", "property", "(I)I"⟩, 6), (⟨"PhraseReader$History", "restore", "(LPhraseReader$Declarations;)V"⟩, 2), (⟨"PhraseReader$Declarations", "countRules", "()I"⟩, 4), (⟨"PhraseReader$Declarations", "countClashingPairs", "()I"⟩, 4), (⟨"PhraseReader$Declarations", "clashesOf", "(I)I"⟩, 4), (⟨"PhraseReader$Member", "clashesWith", "(LPhraseReader$Member;)Z"⟩, 6), (⟨"PhraseReader$Member", "wordLength", "()I"⟩, 6), (⟨"PhraseReader$Declarations", "leastOccurrences", "()I"⟩, 4), (⟨"PhraseReader$Declarations", "mostOccurrences", "()I"⟩, 4), (⟨"PhraseReader$Member", "letter", "(I)I"⟩, 6), (⟨"PhraseReader$Reading", "learn", "(LPhraseReader$Declarations;LPhraseReader$Bytes;)V"⟩, 8), (⟨"PhraseReader$Reading", "findEnds", "(LPhraseReader$Declarations;LPhraseReader$Bytes;)V"⟩, 8)]
theorem lw_r2 : ∀ q ∈ lw_privs_2, lw_okq q := List.forall_mem_cons.mpr ⟨lw_p16, List.forall_mem_cons.mpr ⟨lw_p17, List.forall_mem_cons.mpr ⟨lw_p18, List.forall_mem_cons.mpr ⟨lw_p19, List.forall_mem_cons.mpr ⟨lw_p20, List.forall_mem_cons.mpr ⟨lw_p21, List.forall_mem_cons.mpr ⟨lw_p22, List.forall_mem_cons.mpr ⟨lw_p23, List.forall_mem_cons.mpr ⟨lw_p24, List.forall_mem_cons.mpr ⟨lw_p25, List.forall_mem_cons.mpr ⟨lw_p26, List.forall_mem_cons.mpr ⟨lw_p27, List.forall_mem_cons.mpr ⟨lw_p28, List.forall_mem_cons.mpr ⟨lw_p29, List.forall_mem_cons.mpr ⟨lw_p30, List.forall_mem_cons.mpr ⟨lw_p31, fun _ h => absurd h List.not_mem_nil⟩⟩⟩⟩⟩⟩⟩⟩⟩⟩⟩⟩⟩⟩⟩⟩
theorem lw_p32 : lw_okq (⟨"PhraseReader$Declarations", "tallies", "()I"⟩, 4) := ⟨⟨by decide +kernel, by decide +kernel⟩, List.mem_of_getElem? (i := 36) (by decide +kernel), List.mem_of_getElem? (i := 398) (by decide +kernel), List.mem_of_getElem? (i := 399) (by decide +kernel)⟩
theorem lw_p33 : lw_okq (⟨"PhraseReader$Reading", "endOf", "(I)I"⟩, 8) := ⟨⟨by decide +kernel, by decide +kernel⟩, List.mem_of_getElem? (i := 112) (by decide +kernel), List.mem_of_getElem? (i := 402) (by decide +kernel), List.mem_of_getElem? (i := 403) (by decide +kernel)⟩
theorem lw_p34 : lw_okq (⟨"PhraseReader$Reading", "findSteps", "(ILPhraseReader$Declarations;LPhraseReader$Bytes;)I"⟩, 8) := ⟨⟨by decide +kernel, by decide +kernel⟩, List.mem_of_getElem? (i := 112) (by decide +kernel), List.mem_of_getElem? (i := 406) (by decide +kernel), List.mem_of_getElem? (i := 407) (by decide +kernel)⟩
theorem lw_p35 : lw_okq (⟨"PhraseReader$Reading", "startBehind", "(ILPhraseReader$Declarations;LPhraseReader$Bytes;)I"⟩, 8) := ⟨⟨by decide +kernel, by decide +kernel⟩, List.mem_of_getElem? (i := 112) (by decide +kernel), List.mem_of_getElem? (i := 410) (by decide +kernel), List.mem_of_getElem? (i := 411) (by decide +kernel)⟩
theorem lw_p36 : lw_okq (⟨"PhraseReader$Declarations", "followers", "(I)I"⟩, 4) := ⟨⟨by decide +kernel, by decide +kernel⟩, List.mem_of_getElem? (i := 36) (by decide +kernel), List.mem_of_getElem? (i := 415) (by decide +kernel), List.mem_of_getElem? (i := 416) (by decide +kernel)⟩
theorem lw_p37 : lw_okq (⟨"PhraseReader$Declarations", "presentIn", "(I)I"⟩, 4) := ⟨⟨by decide +kernel, by decide +kernel⟩, List.mem_of_getElem? (i := 36) (by decide +kernel), List.mem_of_getElem? (i := 419) (by decide +kernel), List.mem_of_getElem? (i := 420) (by decide +kernel)⟩
theorem lw_p38 : lw_okq (⟨"PhraseReader$Bytes", "endOf", "(LPhraseReader$Member;I)I"⟩, 2) := ⟨⟨by decide +kernel, by decide +kernel⟩, List.mem_of_getElem? (i := 20) (by decide +kernel), List.mem_of_getElem? (i := 428) (by decide +kernel), List.mem_of_getElem? (i := 429) (by decide +kernel)⟩
theorem lw_p39 : lw_okq (⟨"PhraseReader$Bytes", "lettersMatched", "(LPhraseReader$Member;I)I"⟩, 2) := ⟨⟨by decide +kernel, by decide +kernel⟩, List.mem_of_getElem? (i := 20) (by decide +kernel), List.mem_of_getElem? (i := 433) (by decide +kernel), List.mem_of_getElem? (i := 434) (by decide +kernel)⟩
theorem lw_p40 : lw_okq (⟨"PhraseReader$Bytes", "digitsFrom", "(I)I"⟩, 2) := ⟨⟨by decide +kernel, by decide +kernel⟩, List.mem_of_getElem? (i := 20) (by decide +kernel), List.mem_of_getElem? (i := 438) (by decide +kernel), List.mem_of_getElem? (i := 439) (by decide +kernel)⟩
theorem lw_p41 : lw_okq (⟨"PhraseReader$Reading", "countWays", "(LPhraseReader$Declarations;LPhraseReader$Bytes;)V"⟩, 8) := ⟨⟨by decide +kernel, by decide +kernel⟩, List.mem_of_getElem? (i := 112) (by decide +kernel), List.mem_of_getElem? (i := 451) (by decide +kernel), List.mem_of_getElem? (i := 452) (by decide +kernel)⟩
theorem lw_p42 : lw_okq (⟨"PhraseReader$Reading", "countFrom", "(ILPhraseReader$Declarations;LPhraseReader$Bytes;)J"⟩, 8) := ⟨⟨by decide +kernel, by decide +kernel⟩, List.mem_of_getElem? (i := 112) (by decide +kernel), List.mem_of_getElem? (i := 456) (by decide +kernel), List.mem_of_getElem? (i := 457) (by decide +kernel)⟩
theorem lw_p43 : lw_okq (⟨"PhraseReader$Declarations", "isEnough", "(I)Z"⟩, 4) := ⟨⟨by decide +kernel, by decide +kernel⟩, List.mem_of_getElem? (i := 36) (by decide +kernel), List.mem_of_getElem? (i := 460) (by decide +kernel), List.mem_of_getElem? (i := 461) (by decide +kernel)⟩
theorem lw_p44 : lw_okq (⟨"PhraseReader$Reading", "stepsFrom", "(I)I"⟩, 8) := ⟨⟨by decide +kernel, by decide +kernel⟩, List.mem_of_getElem? (i := 112) (by decide +kernel), List.mem_of_getElem? (i := 464) (by decide +kernel), List.mem_of_getElem? (i := 465) (by decide +kernel)⟩
theorem lw_p45 : lw_okq (⟨"PhraseReader$Reading", "waysFrom", "(I)J"⟩, 8) := ⟨⟨by decide +kernel, by decide +kernel⟩, List.mem_of_getElem? (i := 112) (by decide +kernel), List.mem_of_getElem? (i := 468) (by decide +kernel), List.mem_of_getElem? (i := 469) (by decide +kernel)⟩
theorem lw_p46 : lw_okq (⟨"PhraseReader$Reading", "listFirst", "(LPhraseReader$Declarations;LPhraseReader$Bytes;)V"⟩, 8) := ⟨⟨by decide +kernel, by decide +kernel⟩, List.mem_of_getElem? (i := 112) (by decide +kernel), List.mem_of_getElem? (i := 472) (by decide +kernel), List.mem_of_getElem? (i := 473) (by decide +kernel)⟩
theorem lw_p47 : lw_okq (⟨"PhraseReader$Reading", "firstBehind", "(ILPhraseReader$Declarations;)I"⟩, 8) := ⟨⟨by decide +kernel, by decide +kernel⟩, List.mem_of_getElem? (i := 112) (by decide +kernel), List.mem_of_getElem? (i := 476) (by decide +kernel), List.mem_of_getElem? (i := 477) (by decide +kernel)⟩
def lw_privs_3 : List (MethodName × Nat) := [(⟨"PhraseReader$Declarations", "tallies", "()I"⟩, 4), (⟨"PhraseReader$Reading", "endOf", "(I)I"⟩, 8), (⟨"PhraseReader$Reading", "findSteps", "(ILPhraseReader$Declarations;LPhraseReader$Bytes;)I"⟩, 8), (⟨"PhraseReader$Reading", "startBehind", "(ILPhraseReader$Declarations;LPhraseReader$Bytes;)I"⟩, 8), (⟨"PhraseReader$Declarations", "followers", "(I)I"⟩, 4), (⟨"PhraseReader$Declarations", "presentIn", "(I)I"⟩, 4), (⟨"PhraseReader$Bytes", "endOf", "(LPhraseReader$Member;I)I"⟩, 2), (⟨"PhraseReader$Bytes", "lettersMatched", "(LPhraseReader$Member;I)I"⟩, 2), (⟨"PhraseReader$Bytes", "digitsFrom", "(I)I"⟩, 2), (⟨"PhraseReader$Reading", "countWays", "(LPhraseReader$Declarations;LPhraseReader$Bytes;)V"⟩, 8), (⟨"PhraseReader$Reading", "countFrom", "(ILPhraseReader$Declarations;LPhraseReader$Bytes;)J"⟩, 8), (⟨"PhraseReader$Declarations", "isEnough", "(I)Z"⟩, 4), (⟨"PhraseReader$Reading", "stepsFrom", "(I)I"⟩, 8), (⟨"PhraseReader$Reading", "waysFrom", "(I)J"⟩, 8), (⟨"PhraseReader$Reading", "listFirst", "(LPhraseReader$Declarations;LPhraseReader$Bytes;)V"⟩, 8), (⟨"PhraseReader$Reading", "firstBehind", "(ILPhraseReader$Declarations;)I"⟩, 8)]
theorem lw_r3 : ∀ q ∈ lw_privs_3, lw_okq q := List.forall_mem_cons.mpr ⟨lw_p32, List.forall_mem_cons.mpr ⟨lw_p33, List.forall_mem_cons.mpr ⟨lw_p34, List.forall_mem_cons.mpr ⟨lw_p35, List.forall_mem_cons.mpr ⟨lw_p36, List.forall_mem_cons.mpr ⟨lw_p37, List.forall_mem_cons.mpr ⟨lw_p38, List.forall_mem_cons.mpr ⟨lw_p39, List.forall_mem_cons.mpr ⟨lw_p40, List.forall_mem_cons.mpr ⟨lw_p41, List.forall_mem_cons.mpr ⟨lw_p42, List.forall_mem_cons.mpr ⟨lw_p43, List.forall_mem_cons.mpr ⟨lw_p44, List.forall_mem_cons.mpr ⟨lw_p45, List.forall_mem_cons.mpr ⟨lw_p46, List.forall_mem_cons.mpr ⟨lw_p47, fun _ h => absurd h List.not_mem_nil⟩⟩⟩⟩⟩⟩⟩⟩⟩⟩⟩⟩⟩⟩⟩⟩
theorem lw_p48 : lw_okq (⟨"PhraseReader$Bytes", "numberIn", "(LPhraseReader$Member;II)I"⟩, 2) := ⟨⟨by decide +kernel, by decide +kernel⟩, List.mem_of_getElem? (i := 20) (by decide +kernel), List.mem_of_getElem? (i := 480) (by decide +kernel), List.mem_of_getElem? (i := 481) (by decide +kernel)⟩
theorem lw_p49 : lw_okq (⟨"PhraseReader$Reading", "exists", "()Z"⟩, 8) := ⟨⟨by decide +kernel, by decide +kernel⟩, List.mem_of_getElem? (i := 112) (by decide +kernel), List.mem_of_getElem? (i := 484) (by decide +kernel), List.mem_of_getElem? (i := 485) (by decide +kernel)⟩
theorem lw_p50 : lw_okq (⟨"PhraseReader$Reading", "farthest", "(LPhraseReader$Declarations;LPhraseReader$Bytes;)I"⟩, 8) := ⟨⟨by decide +kernel, by decide +kernel⟩, List.mem_of_getElem? (i := 112) (by decide +kernel), List.mem_of_getElem? (i := 488) (by decide +kernel), List.mem_of_getElem? (i := 489) (by decide +kernel)⟩
theorem lw_p51 : lw_okq (⟨"PhraseReader$Reading", "farthestBehind", "(ILPhraseReader$Declarations;LPhraseReader$Bytes;)I"⟩, 8) := ⟨⟨by decide +kernel, by decide +kernel⟩, List.mem_of_getElem? (i := 112) (by decide +kernel), List.mem_of_getElem? (i := 492) (by decide +kernel), List.mem_of_getElem? (i := 493) (by decide +kernel)⟩
theorem lw_p52 : lw_okq (⟨"PhraseReader$Reading", "memberAt", "(I)I"⟩, 8) := ⟨⟨by decide +kernel, by decide +kernel⟩, List.mem_of_getElem? (i := 112) (by decide +kernel), List.mem_of_getElem? (i := 513) (by decide +kernel), List.mem_of_getElem? (i := 514) (by decide +kernel)⟩
theorem lw_p53 : lw_okq (⟨"PhraseReader$Reading", "startAt", "(I)I"⟩, 8) := ⟨⟨by decide +kernel, by decide +kernel⟩, List.mem_of_getElem? (i := 112) (by decide +kernel), List.mem_of_getElem? (i := 517) (by decide +kernel), List.mem_of_getElem? (i := 518) (by decide +kernel)⟩
theorem lw_p54 : lw_okq (⟨"PhraseReader$Reading", "numberAt", "(I)I"⟩, 8) := ⟨⟨by decide +kernel, by decide +kernel⟩, List.mem_of_getElem? (i := 112) (by decide +kernel), List.mem_of_getElem? (i := 521) (by decide +kernel), List.mem_of_getElem? (i := 522) (by decide +kernel)⟩
theorem lw_p55 : lw_okq (⟨"PhraseReader$Reading", "membersGoingOn", "(LPhraseReader$Declarations;LPhraseReader$Bytes;)I"⟩, 8) := ⟨⟨by decide +kernel, by decide +kernel⟩, List.mem_of_getElem? (i := 112) (by decide +kernel), List.mem_of_getElem? (i := 533) (by decide +kernel), List.mem_of_getElem? (i := 534) (by decide +kernel)⟩
theorem lw_p56 : lw_okq (⟨"PhraseReader", "formNormal", "()V"⟩, 8) := ⟨⟨by decide +kernel, by decide +kernel⟩, List.mem_of_getElem? (i := 12) (by decide +kernel), List.mem_of_getElem? (i := 541) (by decide +kernel), List.mem_of_getElem? (i := 542) (by decide +kernel)⟩
theorem lw_p57 : lw_okq (⟨"PhraseReader$Bytes", "appendOccurrence", "(LPhraseReader$Member;I)V"⟩, 2) := ⟨⟨by decide +kernel, by decide +kernel⟩, List.mem_of_getElem? (i := 20) (by decide +kernel), List.mem_of_getElem? (i := 545) (by decide +kernel), List.mem_of_getElem? (i := 546) (by decide +kernel)⟩
theorem lw_p58 : lw_okq (⟨"PhraseReader$Bytes", "appendNumber", "(I)V"⟩, 2) := ⟨⟨by decide +kernel, by decide +kernel⟩, List.mem_of_getElem? (i := 20) (by decide +kernel), List.mem_of_getElem? (i := 550) (by decide +kernel), List.mem_of_getElem? (i := 551) (by decide +kernel)⟩
theorem lw_p59 : lw_okq (⟨"PhraseReader$OrderTable", "learn", "(LPhraseReader$Declarations;I)V"⟩, 2) := ⟨⟨by decide +kernel, by decide +kernel⟩, List.mem_of_getElem? (i := 147) (by decide +kernel), List.mem_of_getElem? (i := 560) (by decide +kernel), List.mem_of_getElem? (i := 561) (by decide +kernel)⟩
theorem lw_p60 : lw_okq (⟨"PhraseReader$Declarations", "lengthOf", "(I)I"⟩, 4) := ⟨⟨by decide +kernel, by decide +kernel⟩, List.mem_of_getElem? (i := 36) (by decide +kernel), List.mem_of_getElem? (i := 566) (by decide +kernel), List.mem_of_getElem? (i := 567) (by decide +kernel)⟩
theorem lw_p61 : lw_okq (⟨"PhraseReader$OrderTable", "countBehind", "(IILPhraseReader$Declarations;)J"⟩, 2) := ⟨⟨by decide +kernel, by decide +kernel⟩, List.mem_of_getElem? (i := 147) (by decide +kernel), List.mem_of_getElem? (i := 571) (by decide +kernel), List.mem_of_getElem? (i := 572) (by decide +kernel)⟩
theorem lw_p62 : lw_okq (⟨"PhraseReader$OrderTable", "countFrom", "(I)J"⟩, 2) := ⟨⟨by decide +kernel, by decide +kernel⟩, List.mem_of_getElem? (i := 147) (by decide +kernel), List.mem_of_getElem? (i := 578) (by decide +kernel), List.mem_of_getElem? (i := 579) (by decide +kernel)⟩
theorem lw_p63 : lw_okq (⟨"PhraseReader$OrderTable", "memberOf", "(LPhraseReader$Declarations;JI)I"⟩, 2) := ⟨⟨by decide +kernel, by decide +kernel⟩, List.mem_of_getElem? (i := 147) (by decide +kernel), List.mem_of_getElem? (i := 587) (by decide +kernel), List.mem_of_getElem? (i := 588) (by decide +kernel)⟩
def lw_privs_4 : List (MethodName × Nat) := [(⟨"PhraseReader$Bytes", "numberIn", "(LPhraseReader$Member;II)I"⟩, 2), (⟨"PhraseReader$Reading", "exists", "()Z"⟩, 8), (⟨"PhraseReader$Reading", "farthest", "(LPhraseReader$Declarations;LPhraseReader$Bytes;)I"⟩, 8), (⟨"PhraseReader$Reading", "farthestBehind", "(ILPhraseReader$Declarations;LPhraseReader$Bytes;)I"⟩, 8), (⟨"PhraseReader$Reading", "memberAt", "(I)I"⟩, 8), (⟨"PhraseReader$Reading", "startAt", "(I)I"⟩, 8), (⟨"PhraseReader$Reading", "numberAt", "(I)I"⟩, 8), (⟨"PhraseReader$Reading", "membersGoingOn", "(LPhraseReader$Declarations;LPhraseReader$Bytes;)I"⟩, 8), (⟨"PhraseReader", "formNormal", "()V"⟩, 8), (⟨"PhraseReader$Bytes", "appendOccurrence", "(LPhraseReader$Member;I)V"⟩, 2), (⟨"PhraseReader$Bytes", "appendNumber", "(I)V"⟩, 2), (⟨"PhraseReader$OrderTable", "learn", "(LPhraseReader$Declarations;I)V"⟩, 2), (⟨"PhraseReader$Declarations", "lengthOf", "(I)I"⟩, 4), (⟨"PhraseReader$OrderTable", "countBehind", "(IILPhraseReader$Declarations;)J"⟩, 2), (⟨"PhraseReader$OrderTable", "countFrom", "(I)J"⟩, 2), (⟨"PhraseReader$OrderTable", "memberOf", "(LPhraseReader$Declarations;JI)I"⟩, 2)]
theorem lw_r4 : ∀ q ∈ lw_privs_4, lw_okq q := List.forall_mem_cons.mpr ⟨lw_p48, List.forall_mem_cons.mpr ⟨lw_p49, List.forall_mem_cons.mpr ⟨lw_p50, List.forall_mem_cons.mpr ⟨lw_p51, List.forall_mem_cons.mpr ⟨lw_p52, List.forall_mem_cons.mpr ⟨lw_p53, List.forall_mem_cons.mpr ⟨lw_p54, List.forall_mem_cons.mpr ⟨lw_p55, List.forall_mem_cons.mpr ⟨lw_p56, List.forall_mem_cons.mpr ⟨lw_p57, List.forall_mem_cons.mpr ⟨lw_p58, List.forall_mem_cons.mpr ⟨lw_p59, List.forall_mem_cons.mpr ⟨lw_p60, List.forall_mem_cons.mpr ⟨lw_p61, List.forall_mem_cons.mpr ⟨lw_p62, List.forall_mem_cons.mpr ⟨lw_p63, fun _ h => absurd h List.not_mem_nil⟩⟩⟩⟩⟩⟩⟩⟩⟩⟩⟩⟩⟩⟩⟩⟩
theorem lw_p64 : lw_okq (⟨"PhraseReader$OrderTable", "memberBehind", "(IJLPhraseReader$Declarations;)I"⟩, 2) := ⟨⟨by decide +kernel, by decide +kernel⟩, List.mem_of_getElem? (i := 147) (by decide +kernel), List.mem_of_getElem? (i := 591) (by decide +kernel), List.mem_of_getElem? (i := 592) (by decide +kernel)⟩
theorem lw_p65 : lw_okq (⟨"PhraseReader$OrderTable", "numberOf", "(LPhraseReader$Declarations;LPhraseReader$Reading;)J"⟩, 2) := ⟨⟨by decide +kernel, by decide +kernel⟩, List.mem_of_getElem? (i := 147) (by decide +kernel), List.mem_of_getElem? (i := 600) (by decide +kernel), List.mem_of_getElem? (i := 601) (by decide +kernel)⟩
theorem lw_p66 : lw_okq (⟨"PhraseReader", "isImage", "(I)Z"⟩, 8) := ⟨⟨by decide +kernel, by decide +kernel⟩, List.mem_of_getElem? (i := 12) (by decide +kernel), List.mem_of_getElem? (i := 609) (by decide +kernel), List.mem_of_getElem? (i := 610) (by decide +kernel)⟩
theorem lw_p67 : lw_okq (⟨"PhraseReaderModel", "isNewWord", "()Z"⟩, 17) := ⟨⟨by decide +kernel, by decide +kernel⟩, List.mem_of_getElem? (i := 618) (by decide +kernel), List.mem_of_getElem? (i := 692) (by decide +kernel), List.mem_of_getElem? (i := 693) (by decide +kernel)⟩
theorem lw_p68 : lw_okq (⟨"PhraseReaderModel", "isWord", "()Z"⟩, 17) := ⟨⟨by decide +kernel, by decide +kernel⟩, List.mem_of_getElem? (i := 618) (by decide +kernel), List.mem_of_getElem? (i := 696) (by decide +kernel), List.mem_of_getElem? (i := 697) (by decide +kernel)⟩
theorem lw_p69 : lw_okq (⟨"PhraseReaderModel", "isWordOf", "(I)Z"⟩, 17) := ⟨⟨by decide +kernel, by decide +kernel⟩, List.mem_of_getElem? (i := 618) (by decide +kernel), List.mem_of_getElem? (i := 700) (by decide +kernel), List.mem_of_getElem? (i := 701) (by decide +kernel)⟩
theorem lw_p70 : lw_okq (⟨"PhraseReaderModel", "wordLength", "(I)I"⟩, 17) := ⟨⟨by decide +kernel, by decide +kernel⟩, List.mem_of_getElem? (i := 618) (by decide +kernel), List.mem_of_getElem? (i := 704) (by decide +kernel), List.mem_of_getElem? (i := 705) (by decide +kernel)⟩
theorem lw_p71 : lw_okq (⟨"PhraseReaderModel", "letter", "(II)I"⟩, 17) := ⟨⟨by decide +kernel, by decide +kernel⟩, List.mem_of_getElem? (i := 618) (by decide +kernel), List.mem_of_getElem? (i := 708) (by decide +kernel), List.mem_of_getElem? (i := 709) (by decide +kernel)⟩
theorem lw_p72 : lw_okq (⟨"PhraseReaderModel", "remember", "()V"⟩, 17) := ⟨⟨by decide +kernel, by decide +kernel⟩, List.mem_of_getElem? (i := 618) (by decide +kernel), List.mem_of_getElem? (i := 712) (by decide +kernel), List.mem_of_getElem? (i := 713) (by decide +kernel)⟩
theorem lw_p73 : lw_okq (⟨"PhraseReaderModel", "isMember", "(I)Z"⟩, 17) := ⟨⟨by decide +kernel, by decide +kernel⟩, List.mem_of_getElem? (i := 618) (by decide +kernel), List.mem_of_getElem? (i := 720) (by decide +kernel), List.mem_of_getElem? (i := 721) (by decide +kernel)⟩
theorem lw_p74 : lw_okq (⟨"PhraseReaderModel", "arrange", "(I)V"⟩, 17) := ⟨⟨by decide +kernel, by decide +kernel⟩, List.mem_of_getElem? (i := 618) (by decide +kernel), List.mem_of_getElem? (i := 724) (by decide +kernel), List.mem_of_getElem? (i := 725) (by decide +kernel)⟩
theorem lw_p75 : lw_okq (⟨"PhraseReaderModel", "old", "(I)I"⟩, 17) := ⟨⟨by decide +kernel, by decide +kernel⟩, List.mem_of_getElem? (i := 618) (by decide +kernel), List.mem_of_getElem? (i := 728) (by decide +kernel), List.mem_of_getElem? (i := 729) (by decide +kernel)⟩
theorem lw_p76 : lw_okq (⟨"PhraseReaderModel", "renamed", "(II)I"⟩, 17) := ⟨⟨by decide +kernel, by decide +kernel⟩, List.mem_of_getElem? (i := 618) (by decide +kernel), List.mem_of_getElem? (i := 732) (by decide +kernel), List.mem_of_getElem? (i := 733) (by decide +kernel)⟩
theorem lw_p77 : lw_okq (⟨"PhraseReaderModel", "rules", "()I"⟩, 17) := ⟨⟨by decide +kernel, by decide +kernel⟩, List.mem_of_getElem? (i := 618) (by decide +kernel), List.mem_of_getElem? (i := 763) (by decide +kernel), List.mem_of_getElem? (i := 764) (by decide +kernel)⟩
theorem lw_p78 : lw_okq (⟨"PhraseReaderModel", "clashes", "()I"⟩, 17) := ⟨⟨by decide +kernel, by decide +kernel⟩, List.mem_of_getElem? (i := 618) (by decide +kernel), List.mem_of_getElem? (i := 770) (by decide +kernel), List.mem_of_getElem? (i := 771) (by decide +kernel)⟩
theorem lw_p79 : lw_okq (⟨"PhraseReaderModel", "clashing", "(I)I"⟩, 17) := ⟨⟨by decide +kernel, by decide +kernel⟩, List.mem_of_getElem? (i := 618) (by decide +kernel), List.mem_of_getElem? (i := 774) (by decide +kernel), List.mem_of_getElem? (i := 775) (by decide +kernel)⟩
def lw_privs_5 : List (MethodName × Nat) := [(⟨"PhraseReader$OrderTable", "memberBehind", "(IJLPhraseReader$Declarations;)I"⟩, 2), (⟨"PhraseReader$OrderTable", "numberOf", "(LPhraseReader$Declarations;LPhraseReader$Reading;)J"⟩, 2), (⟨"PhraseReader", "isImage", "(I)Z"⟩, 8), (⟨"PhraseReaderModel", "isNewWord", "()Z"⟩, 17), (⟨"PhraseReaderModel", "isWord", "()Z"⟩, 17), (⟨"PhraseReaderModel", "isWordOf", "(I)Z"⟩, 17), (⟨"PhraseReaderModel", "wordLength", "(I)I"⟩, 17), (⟨"PhraseReaderModel", "letter", "(II)I"⟩, 17), (⟨"PhraseReaderModel", "remember", "()V"⟩, 17), (⟨"PhraseReaderModel", "isMember", "(I)Z"⟩, 17), (⟨"PhraseReaderModel", "arrange", "(I)V"⟩, 17), (⟨"PhraseReaderModel", "old", "(I)I"⟩, 17), (⟨"PhraseReaderModel", "renamed", "(II)I"⟩, 17), (⟨"PhraseReaderModel", "rules", "()I"⟩, 17), (⟨"PhraseReaderModel", "clashes", "()I"⟩, 17), (⟨"PhraseReaderModel", "clashing", "(I)I"⟩, 17)]
theorem lw_r5 : ∀ q ∈ lw_privs_5, lw_okq q := List.forall_mem_cons.mpr ⟨lw_p64, List.forall_mem_cons.mpr ⟨lw_p65, List.forall_mem_cons.mpr ⟨lw_p66, List.forall_mem_cons.mpr ⟨lw_p67, List.forall_mem_cons.mpr ⟨lw_p68, List.forall_mem_cons.mpr ⟨lw_p69, List.forall_mem_cons.mpr ⟨lw_p70, List.forall_mem_cons.mpr ⟨lw_p71, List.forall_mem_cons.mpr ⟨lw_p72, List.forall_mem_cons.mpr ⟨lw_p73, List.forall_mem_cons.mpr ⟨lw_p74, List.forall_mem_cons.mpr ⟨lw_p75, List.forall_mem_cons.mpr ⟨lw_p76, List.forall_mem_cons.mpr ⟨lw_p77, List.forall_mem_cons.mpr ⟨lw_p78, List.forall_mem_cons.mpr ⟨lw_p79, fun _ h => absurd h List.not_mem_nil⟩⟩⟩⟩⟩⟩⟩⟩⟩⟩⟩⟩⟩⟩⟩⟩
theorem lw_p80 : lw_okq (⟨"PhraseReaderModel", "begins", "(II)Z"⟩, 17) := ⟨⟨by decide +kernel, by decide +kernel⟩, List.mem_of_getElem? (i := 618) (by decide +kernel), List.mem_of_getElem? (i := 778) (by decide +kernel), List.mem_of_getElem? (i := 779) (by decide +kernel)⟩
theorem lw_p81 : lw_okq (⟨"PhraseReaderModel", "sumOf", "(I)I"⟩, 17) := ⟨⟨by decide +kernel, by decide +kernel⟩, List.mem_of_getElem? (i := 618) (by decide +kernel), List.mem_of_getElem? (i := 782) (by decide +kernel), List.mem_of_getElem? (i := 783) (by decide +kernel)⟩
theorem lw_p82 : lw_okq (⟨"PhraseReaderModel", "layWays", "()V"⟩, 17) := ⟨⟨by decide +kernel, by decide +kernel⟩, List.mem_of_getElem? (i := 618) (by decide +kernel), List.mem_of_getElem? (i := 794) (by decide +kernel), List.mem_of_getElem? (i := 795) (by decide +kernel)⟩
theorem lw_p83 : lw_okq (⟨"PhraseReaderModel", "layBeginnings", "()V"⟩, 17) := ⟨⟨by decide +kernel, by decide +kernel⟩, List.mem_of_getElem? (i := 618) (by decide +kernel), List.mem_of_getElem? (i := 798) (by decide +kernel), List.mem_of_getElem? (i := 799) (by decide +kernel)⟩
theorem lw_p84 : lw_okq (⟨"PhraseReaderModel", "startOf", "(II)I"⟩, 17) := ⟨⟨by decide +kernel, by decide +kernel⟩, List.mem_of_getElem? (i := 618) (by decide +kernel), List.mem_of_getElem? (i := 802) (by decide +kernel), List.mem_of_getElem? (i := 803) (by decide +kernel)⟩
theorem lw_p85 : lw_okq (⟨"PhraseReaderModel", "may", "(II)Z"⟩, 17) := ⟨⟨by decide +kernel, by decide +kernel⟩, List.mem_of_getElem? (i := 618) (by decide +kernel), List.mem_of_getElem? (i := 806) (by decide +kernel), List.mem_of_getElem? (i := 807) (by decide +kernel)⟩
theorem lw_p86 : lw_okq (⟨"PhraseReaderModel", "endOf", "(II)I"⟩, 17) := ⟨⟨by decide +kernel, by decide +kernel⟩, List.mem_of_getElem? (i := 618) (by decide +kernel), List.mem_of_getElem? (i := 813) (by decide +kernel), List.mem_of_getElem? (i := 814) (by decide +kernel)⟩
theorem lw_p87 : lw_okq (⟨"PhraseReaderModel", "matched", "(II)I"⟩, 17) := ⟨⟨by decide +kernel, by decide +kernel⟩, List.mem_of_getElem? (i := 618) (by decide +kernel), List.mem_of_getElem? (i := 817) (by decide +kernel), List.mem_of_getElem? (i := 818) (by decide +kernel)⟩
theorem lw_p88 : lw_okq (⟨"PhraseReaderModel", "isDigitAt", "(I)Z"⟩, 17) := ⟨⟨by decide +kernel, by decide +kernel⟩, List.mem_of_getElem? (i := 618) (by decide +kernel), List.mem_of_getElem? (i := 821) (by decide +kernel), List.mem_of_getElem? (i := 822) (by decide +kernel)⟩
theorem lw_p89 : lw_okq (⟨"PhraseReaderModel", "waysFrom", "(II)I"⟩, 17) := ⟨⟨by decide +kernel, by decide +kernel⟩, List.mem_of_getElem? (i := 618) (by decide +kernel), List.mem_of_getElem? (i := 828) (by decide +kernel), List.mem_of_getElem? (i := 829) (by decide +kernel)⟩
theorem lw_p90 : lw_okq (⟨"PhraseReaderModel", "isWhole", "(I)Z"⟩, 17) := ⟨⟨by decide +kernel, by decide +kernel⟩, List.mem_of_getElem? (i := 618) (by decide +kernel), List.mem_of_getElem? (i := 832) (by decide +kernel), List.mem_of_getElem? (i := 833) (by decide +kernel)⟩
theorem lw_p91 : lw_okq (⟨"PhraseReaderModel", "furthest", "(II)I"⟩, 17) := ⟨⟨by decide +kernel, by decide +kernel⟩, List.mem_of_getElem? (i := 618) (by decide +kernel), List.mem_of_getElem? (i := 837) (by decide +kernel), List.mem_of_getElem? (i := 838) (by decide +kernel)⟩
theorem lw_p92 : lw_okq (⟨"PhraseReaderModel", "layReading", "()I"⟩, 17) := ⟨⟨by decide +kernel, by decide +kernel⟩, List.mem_of_getElem? (i := 618) (by decide +kernel), List.mem_of_getElem? (i := 849) (by decide +kernel), List.mem_of_getElem? (i := 850) (by decide +kernel)⟩
theorem lw_p93 : lw_okq (⟨"PhraseReaderModel", "valueAt", "(II)I"⟩, 17) := ⟨⟨by decide +kernel, by decide +kernel⟩, List.mem_of_getElem? (i := 618) (by decide +kernel), List.mem_of_getElem? (i := 853) (by decide +kernel), List.mem_of_getElem? (i := 854) (by decide +kernel)⟩
theorem lw_p94 : lw_okq (⟨"PhraseReaderModel", "mayFollow", "(I)I"⟩, 17) := ⟨⟨by decide +kernel, by decide +kernel⟩, List.mem_of_getElem? (i := 618) (by decide +kernel), List.mem_of_getElem? (i := 865) (by decide +kernel), List.mem_of_getElem? (i := 866) (by decide +kernel)⟩
theorem lw_p95 : lw_okq (⟨"PhraseReaderModel", "layForm", "(I)I"⟩, 17) := ⟨⟨by decide +kernel, by decide +kernel⟩, List.mem_of_getElem? (i := 618) (by decide +kernel), List.mem_of_getElem? (i := 873) (by decide +kernel), List.mem_of_getElem? (i := 874) (by decide +kernel)⟩
def lw_privs_6 : List (MethodName × Nat) := [(⟨"PhraseReaderModel", "begins", "(II)Z"⟩, 17), (⟨"PhraseReaderModel", "sumOf", "(I)I"⟩, 17), (⟨"PhraseReaderModel", "layWays", "()V"⟩, 17), (⟨"PhraseReaderModel", "layBeginnings", "()V"⟩, 17), (⟨"PhraseReaderModel", "startOf", "(II)I"⟩, 17), (⟨"PhraseReaderModel", "may", "(II)Z"⟩, 17), (⟨"PhraseReaderModel", "endOf", "(II)I"⟩, 17), (⟨"PhraseReaderModel", "matched", "(II)I"⟩, 17), (⟨"PhraseReaderModel", "isDigitAt", "(I)Z"⟩, 17), (⟨"PhraseReaderModel", "waysFrom", "(II)I"⟩, 17), (⟨"PhraseReaderModel", "isWhole", "(I)Z"⟩, 17), (⟨"PhraseReaderModel", "furthest", "(II)I"⟩, 17), (⟨"PhraseReaderModel", "layReading", "()I"⟩, 17), (⟨"PhraseReaderModel", "valueAt", "(II)I"⟩, 17), (⟨"PhraseReaderModel", "mayFollow", "(I)I"⟩, 17), (⟨"PhraseReaderModel", "layForm", "(I)I"⟩, 17)]
theorem lw_r6 : ∀ q ∈ lw_privs_6, lw_okq q := List.forall_mem_cons.mpr ⟨lw_p80, List.forall_mem_cons.mpr ⟨lw_p81, List.forall_mem_cons.mpr ⟨lw_p82, List.forall_mem_cons.mpr ⟨lw_p83, List.forall_mem_cons.mpr ⟨lw_p84, List.forall_mem_cons.mpr ⟨lw_p85, List.forall_mem_cons.mpr ⟨lw_p86, List.forall_mem_cons.mpr ⟨lw_p87, List.forall_mem_cons.mpr ⟨lw_p88, List.forall_mem_cons.mpr ⟨lw_p89, List.forall_mem_cons.mpr ⟨lw_p90, List.forall_mem_cons.mpr ⟨lw_p91, List.forall_mem_cons.mpr ⟨lw_p92, List.forall_mem_cons.mpr ⟨lw_p93, List.forall_mem_cons.mpr ⟨lw_p94, List.forall_mem_cons.mpr ⟨lw_p95, fun _ h => absurd h List.not_mem_nil⟩⟩⟩⟩⟩⟩⟩⟩⟩⟩⟩⟩⟩⟩⟩⟩
theorem lw_p96 : lw_okq (⟨"PhraseReaderModel", "layValue", "(III)I"⟩, 17) := ⟨⟨by decide +kernel, by decide +kernel⟩, List.mem_of_getElem? (i := 618) (by decide +kernel), List.mem_of_getElem? (i := 877) (by decide +kernel), List.mem_of_getElem? (i := 878) (by decide +kernel)⟩
theorem lw_p97 : lw_okq (⟨"PhraseReaderModel", "layOrders", "()V"⟩, 17) := ⟨⟨by decide +kernel, by decide +kernel⟩, List.mem_of_getElem? (i := 618) (by decide +kernel), List.mem_of_getElem? (i := 886) (by decide +kernel), List.mem_of_getElem? (i := 887) (by decide +kernel)⟩
theorem lw_p98 : lw_okq (⟨"PhraseReaderModel", "isState", "(I)Z"⟩, 17) := ⟨⟨by decide +kernel, by decide +kernel⟩, List.mem_of_getElem? (i := 618) (by decide +kernel), List.mem_of_getElem? (i := 890) (by decide +kernel), List.mem_of_getElem? (i := 891) (by decide +kernel)⟩
def lw_privs_7 : List (MethodName × Nat) := [(⟨"PhraseReaderModel", "layValue", "(III)I"⟩, 17), (⟨"PhraseReaderModel", "layOrders", "()V"⟩, 17), (⟨"PhraseReaderModel", "isState", "(I)Z"⟩, 17)]
theorem lw_r7 : ∀ q ∈ lw_privs_7, lw_okq q := List.forall_mem_cons.mpr ⟨lw_p96, List.forall_mem_cons.mpr ⟨lw_p97, List.forall_mem_cons.mpr ⟨lw_p98, fun _ h => absurd h List.not_mem_nil⟩⟩⟩
def lw_privs : List (MethodName × Nat) := lw_privs_1 ++ (lw_privs_2 ++ (lw_privs_3 ++ (lw_privs_4 ++ (lw_privs_5 ++ (lw_privs_6 ++ (lw_privs_7))))))
def lw_tbl : List Cond := k2_sels lw_privs ++ tables_1
theorem lw_privs_ok : ∀ q ∈ lw_privs, lw_okq q := by
  show ∀ q ∈ lw_privs_1 ++ (lw_privs_2 ++ (lw_privs_3 ++ (lw_privs_4 ++ (lw_privs_5 ++ (lw_privs_6 ++ (lw_privs_7)))))), lw_okq q
  exact List.forall_mem_append.mpr ⟨lw_r1, List.forall_mem_append.mpr ⟨lw_r2, List.forall_mem_append.mpr ⟨lw_r3, List.forall_mem_append.mpr ⟨lw_r4, List.forall_mem_append.mpr ⟨lw_r5, List.forall_mem_append.mpr ⟨lw_r6, lw_r7⟩⟩⟩⟩⟩⟩
-- ===== end of PART A; then your names; then what follows =====
end
section

/-! ===== BEGIN printed: names, fields, word lists, decode rows ===== -/
def RX0 : String := "PhraseReader$Bytes"
def TX0 : u_T := fun k => match k with
  | 0 => ("PhraseReader$Bytes", "codes", "[I", true)
  | _ => ("PhraseReader$Bytes", "length", "I", false)
def tyX0 : Nat → FieldType := fun k => match k with
  | 0 => .array .int
  | _ => .int
abbrev wsX00 : List Cond := u_ws RX0 TX0 2
theorem nmX0 : ∀ a, a < 2 → ∀ b, b < 2 → a ≠ b → (TX0 a).2.1 ≠ (TX0 b).2.1 := by decide +kernel
theorem tyX0_ok : ∀ k, k < 2 → parseFieldDescriptor (TX0 k).2.2.1 = some (tyX0 k) := by decide +kernel
abbrev cX0_init : ByteArray := prog_2_method_1_code
def yX0_init : MethodName := ⟨RX0, "<init>", "()V"⟩
abbrev cX0_clear : ByteArray := prog_2_method_2_code
def yX0_clear : MethodName := ⟨RX0, "clear", "()V"⟩
abbrev cX0_append : ByteArray := prog_2_method_3_code
def yX0_append : MethodName := ⟨RX0, "append", "(I)Z"⟩
abbrev cX0_at : ByteArray := prog_2_method_4_code
def yX0_at : MethodName := ⟨RX0, "at", "(I)I"⟩
abbrev cX0_asWord : ByteArray := prog_2_method_5_code
def yX0_asWord : MethodName := ⟨RX0, "asWord", "()I"⟩
abbrev cX0_lettersMatched : ByteArray := prog_2_method_6_code
def yX0_lettersMatched : MethodName := ⟨RX0, "lettersMatched", "(LPhraseReader$Member;I)I"⟩
abbrev cX0_digitsFrom : ByteArray := prog_2_method_7_code
def yX0_digitsFrom : MethodName := ⟨RX0, "digitsFrom", "(I)I"⟩
abbrev cX0_endOf : ByteArray := prog_2_method_8_code
def yX0_endOf : MethodName := ⟨RX0, "endOf", "(LPhraseReader$Member;I)I"⟩
abbrev cX0_numberIn : ByteArray := prog_2_method_9_code
def yX0_numberIn : MethodName := ⟨RX0, "numberIn", "(LPhraseReader$Member;II)I"⟩
abbrev cX0_appendOccurrence : ByteArray := prog_2_method_10_code
def yX0_appendOccurrence : MethodName := ⟨RX0, "appendOccurrence", "(LPhraseReader$Member;I)V"⟩
abbrev cX0_appendNumber : ByteArray := prog_2_method_11_code
def yX0_appendNumber : MethodName := ⟨RX0, "appendNumber", "(I)V"⟩
def RX1 : String := "PhraseReader$Declarations"
def TX1 : u_T := fun k => match k with
  | 0 => ("PhraseReader$Declarations", "members", "[LPhraseReader$Member;", true)
  | 1 => ("PhraseReader$Declarations", "nobody", "LPhraseReader$Member;", true)
  | 2 => ("PhraseReader$Declarations", "count", "I", false)
  | _ => ("PhraseReader$Declarations", "separator", "I", false)
def tyX1 : Nat → FieldType := fun k => match k with
  | 0 => .array (.object "PhraseReader$Member")
  | 1 => .object "PhraseReader$Member"
  | 2 => .int
  | _ => .int
abbrev wsX10 : List Cond := u_ws RX1 TX1 4
theorem nmX1 : ∀ a, a < 4 → ∀ b, b < 4 → a ≠ b → (TX1 a).2.1 ≠ (TX1 b).2.1 := by decide +kernel
theorem tyX1_ok : ∀ k, k < 4 → parseFieldDescriptor (TX1 k).2.2.1 = some (tyX1 k) := by decide +kernel
abbrev cX1_init : ByteArray := prog_3_method_1_code
def yX1_init : MethodName := ⟨RX1, "<init>", "()V"⟩
abbrev cX1_copyFrom : ByteArray := prog_3_method_2_code
def yX1_copyFrom : MethodName := ⟨RX1, "copyFrom", "(LPhraseReader$Declarations;)V"⟩
abbrev cX1_has : ByteArray := prog_3_method_3_code
def yX1_has : MethodName := ⟨RX1, "has", "(I)Z"⟩
abbrev cX1_at : ByteArray := prog_3_method_4_code
def yX1_at : MethodName := ⟨RX1, "at", "(I)LPhraseReader$Member;"⟩
abbrev cX1_hasWord : ByteArray := prog_3_method_5_code
def yX1_hasWord : MethodName := ⟨RX1, "hasWord", "(I)Z"⟩
abbrev cX1_add : ByteArray := prog_3_method_6_code
def yX1_add : MethodName := ⟨RX1, "add", "(IIII)I"⟩
abbrev cX1_reseat : ByteArray := prog_3_method_7_code
def yX1_reseat : MethodName := ⟨RX1, "reseat", "(II)V"⟩
abbrev cX1_takeOut : ByteArray := prog_3_method_8_code
def yX1_takeOut : MethodName := ⟨RX1, "takeOut", "(I)V"⟩
abbrev cX1_countRules : ByteArray := prog_3_method_9_code
def yX1_countRules : MethodName := ⟨RX1, "countRules", "()I"⟩
abbrev cX1_clashesOf : ByteArray := prog_3_method_10_code
def yX1_clashesOf : MethodName := ⟨RX1, "clashesOf", "(I)I"⟩
abbrev cX1_countClashingPairs : ByteArray := prog_3_method_11_code
def yX1_countClashingPairs : MethodName := ⟨RX1, "countClashingPairs", "()I"⟩
abbrev cX1_leastOccurrences : ByteArray := prog_3_method_12_code
def yX1_leastOccurrences : MethodName := ⟨RX1, "leastOccurrences", "()I"⟩
abbrev cX1_mostOccurrences : ByteArray := prog_3_method_13_code
def yX1_mostOccurrences : MethodName := ⟨RX1, "mostOccurrences", "()I"⟩
abbrev cX1_tallies : ByteArray := prog_3_method_14_code
def yX1_tallies : MethodName := ⟨RX1, "tallies", "()I"⟩
abbrev cX1_lengthOf : ByteArray := prog_3_method_15_code
def yX1_lengthOf : MethodName := ⟨RX1, "lengthOf", "(I)I"⟩
abbrev cX1_isEnough : ByteArray := prog_3_method_16_code
def yX1_isEnough : MethodName := ⟨RX1, "isEnough", "(I)Z"⟩
abbrev cX1_presentIn : ByteArray := prog_3_method_17_code
def yX1_presentIn : MethodName := ⟨RX1, "presentIn", "(I)I"⟩
abbrev cX1_followers : ByteArray := prog_3_method_18_code
def yX1_followers : MethodName := ⟨RX1, "followers", "(I)I"⟩
def RX2 : String := "PhraseReader$History"
def TX2 : u_T := fun k => match k with
  | 0 => ("PhraseReader$History", "states", "[LPhraseReader$Declarations;", true)
  | _ => ("PhraseReader$History", "count", "I", false)
def tyX2 : Nat → FieldType := fun k => match k with
  | 0 => .array (.object "PhraseReader$Declarations")
  | _ => .int
abbrev wsX20 : List Cond := u_ws RX2 TX2 2
theorem nmX2 : ∀ a, a < 2 → ∀ b, b < 2 → a ≠ b → (TX2 a).2.1 ≠ (TX2 b).2.1 := by decide +kernel
theorem tyX2_ok : ∀ k, k < 2 → parseFieldDescriptor (TX2 k).2.2.1 = some (tyX2 k) := by decide +kernel
abbrev cX2_init : ByteArray := prog_4_method_1_code
def yX2_init : MethodName := ⟨RX2, "<init>", "()V"⟩
abbrev cX2_record : ByteArray := prog_4_method_2_code
def yX2_record : MethodName := ⟨RX2, "record", "(LPhraseReader$Declarations;)V"⟩
abbrev cX2_dropOldest : ByteArray := prog_4_method_3_code
def yX2_dropOldest : MethodName := ⟨RX2, "dropOldest", "()V"⟩
abbrev cX2_restore : ByteArray := prog_4_method_4_code
def yX2_restore : MethodName := ⟨RX2, "restore", "(LPhraseReader$Declarations;)V"⟩
def RX3 : String := "PhraseReader$Member"
def TX3 : u_T := fun k => match k with
  | 0 => ("PhraseReader$Member", "word", "I", false)
  | 1 => ("PhraseReader$Member", "kind", "I", false)
  | 2 => ("PhraseReader$Member", "least", "I", false)
  | 3 => ("PhraseReader$Member", "most", "I", false)
  | 4 => ("PhraseReader$Member", "fallback", "I", false)
  | _ => ("PhraseReader$Member", "before", "I", false)
def tyX3 : Nat → FieldType := fun k => match k with
  | 0 => .int
  | 1 => .int
  | 2 => .int
  | 3 => .int
  | 4 => .int
  | _ => .int
abbrev wsX30 : List Cond := u_ws RX3 TX3 6
theorem nmX3 : ∀ a, a < 6 → ∀ b, b < 6 → a ≠ b → (TX3 a).2.1 ≠ (TX3 b).2.1 := by decide +kernel
theorem tyX3_ok : ∀ k, k < 6 → parseFieldDescriptor (TX3 k).2.2.1 = some (tyX3 k) := by decide +kernel
abbrev cX3_init : ByteArray := prog_5_method_1_code
def yX3_init : MethodName := ⟨RX3, "<init>", "()V"⟩
abbrev cX3_copyFrom : ByteArray := prog_5_method_2_code
def yX3_copyFrom : MethodName := ⟨RX3, "copyFrom", "(LPhraseReader$Member;)V"⟩
abbrev cX3_wordLength : ByteArray := prog_5_method_3_code
def yX3_wordLength : MethodName := ⟨RX3, "wordLength", "()I"⟩
abbrev cX3_letter : ByteArray := prog_5_method_4_code
def yX3_letter : MethodName := ⟨RX3, "letter", "(I)I"⟩
abbrev cX3_clashesWith : ByteArray := prog_5_method_5_code
def yX3_clashesWith : MethodName := ⟨RX3, "clashesWith", "(LPhraseReader$Member;)Z"⟩
abbrev cX3_accepts : ByteArray := prog_5_method_6_code
def yX3_accepts : MethodName := ⟨RX3, "accepts", "(II)Z"⟩
abbrev cX3_property : ByteArray := prog_5_method_7_code
def yX3_property : MethodName := ⟨RX3, "property", "(I)I"⟩
abbrev cX3_exchange : ByteArray := prog_5_method_8_code
def yX3_exchange : MethodName := ⟨RX3, "exchange", "(II)I"⟩
def RX4 : String := "PhraseReader$OrderTable"
def TX4 : u_T := fun k => match k with
  | 0 => ("PhraseReader$OrderTable", "counts", "[J", true)
  | _ => ("PhraseReader$OrderTable", "knownLength", "I", false)
def tyX4 : Nat → FieldType := fun k => match k with
  | 0 => .array .long
  | _ => .int
abbrev wsX40 : List Cond := u_ws RX4 TX4 2
theorem nmX4 : ∀ a, a < 2 → ∀ b, b < 2 → a ≠ b → (TX4 a).2.1 ≠ (TX4 b).2.1 := by decide +kernel
theorem tyX4_ok : ∀ k, k < 2 → parseFieldDescriptor (TX4 k).2.2.1 = some (tyX4 k) := by decide +kernel
abbrev cX4_init : ByteArray := prog_6_method_1_code
def yX4_init : MethodName := ⟨RX4, "<init>", "()V"⟩
abbrev cX4_forget : ByteArray := prog_6_method_2_code
def yX4_forget : MethodName := ⟨RX4, "forget", "()V"⟩
abbrev cX4_learn : ByteArray := prog_6_method_3_code
def yX4_learn : MethodName := ⟨RX4, "learn", "(LPhraseReader$Declarations;I)V"⟩
abbrev cX4_countFrom : ByteArray := prog_6_method_4_code
def yX4_countFrom : MethodName := ⟨RX4, "countFrom", "(I)J"⟩
abbrev cX4_countBehind : ByteArray := prog_6_method_5_code
def yX4_countBehind : MethodName := ⟨RX4, "countBehind", "(IILPhraseReader$Declarations;)J"⟩
abbrev cX4_memberOf : ByteArray := prog_6_method_6_code
def yX4_memberOf : MethodName := ⟨RX4, "memberOf", "(LPhraseReader$Declarations;JI)I"⟩
abbrev cX4_memberBehind : ByteArray := prog_6_method_7_code
def yX4_memberBehind : MethodName := ⟨RX4, "memberBehind", "(IJLPhraseReader$Declarations;)I"⟩
abbrev cX4_numberOf : ByteArray := prog_6_method_8_code
def yX4_numberOf : MethodName := ⟨RX4, "numberOf", "(LPhraseReader$Declarations;LPhraseReader$Reading;)J"⟩
def RX5 : String := "PhraseReader$Reading"
def TX5 : u_T := fun k => match k with
  | 0 => ("PhraseReader$Reading", "ends", "[I", true)
  | 1 => ("PhraseReader$Reading", "steps", "[I", true)
  | 2 => ("PhraseReader$Reading", "ways", "[J", true)
  | 3 => ("PhraseReader$Reading", "members", "[I", true)
  | 4 => ("PhraseReader$Reading", "starts", "[I", true)
  | 5 => ("PhraseReader$Reading", "numbers", "[I", true)
  | 6 => ("PhraseReader$Reading", "count", "I", false)
  | _ => ("PhraseReader$Reading", "known", "Z", false)
def tyX5 : Nat → FieldType := fun k => match k with
  | 0 => .array .int
  | 1 => .array .int
  | 2 => .array .long
  | 3 => .array .int
  | 4 => .array .int
  | 5 => .array .int
  | 6 => .int
  | _ => .boolean
abbrev wsX50 : List Cond := u_ws RX5 TX5 8
theorem nmX5 : ∀ a, a < 8 → ∀ b, b < 8 → a ≠ b → (TX5 a).2.1 ≠ (TX5 b).2.1 := by decide +kernel
theorem tyX5_ok : ∀ k, k < 8 → parseFieldDescriptor (TX5 k).2.2.1 = some (tyX5 k) := by decide +kernel
abbrev cX5_init : ByteArray := prog_7_method_1_code
def yX5_init : MethodName := ⟨RX5, "<init>", "()V"⟩
abbrev cX5_forget : ByteArray := prog_7_method_2_code
def yX5_forget : MethodName := ⟨RX5, "forget", "()V"⟩
abbrev cX5_learn : ByteArray := prog_7_method_3_code
def yX5_learn : MethodName := ⟨RX5, "learn", "(LPhraseReader$Declarations;LPhraseReader$Bytes;)V"⟩
abbrev cX5_exists : ByteArray := prog_7_method_4_code
def yX5_exists : MethodName := ⟨RX5, "exists", "()Z"⟩
abbrev cX5_endOf : ByteArray := prog_7_method_5_code
def yX5_endOf : MethodName := ⟨RX5, "endOf", "(I)I"⟩
abbrev cX5_stepsFrom : ByteArray := prog_7_method_6_code
def yX5_stepsFrom : MethodName := ⟨RX5, "stepsFrom", "(I)I"⟩
abbrev cX5_waysFrom : ByteArray := prog_7_method_7_code
def yX5_waysFrom : MethodName := ⟨RX5, "waysFrom", "(I)J"⟩
abbrev cX5_memberAt : ByteArray := prog_7_method_8_code
def yX5_memberAt : MethodName := ⟨RX5, "memberAt", "(I)I"⟩
abbrev cX5_startAt : ByteArray := prog_7_method_9_code
def yX5_startAt : MethodName := ⟨RX5, "startAt", "(I)I"⟩
abbrev cX5_numberAt : ByteArray := prog_7_method_10_code
def yX5_numberAt : MethodName := ⟨RX5, "numberAt", "(I)I"⟩
abbrev cX5_findEnds : ByteArray := prog_7_method_11_code
def yX5_findEnds : MethodName := ⟨RX5, "findEnds", "(LPhraseReader$Declarations;LPhraseReader$Bytes;)V"⟩
abbrev cX5_findSteps : ByteArray := prog_7_method_12_code
def yX5_findSteps : MethodName := ⟨RX5, "findSteps", "(ILPhraseReader$Declarations;LPhraseReader$Bytes;)I"⟩
abbrev cX5_startBehind : ByteArray := prog_7_method_13_code
def yX5_startBehind : MethodName := ⟨RX5, "startBehind", "(ILPhraseReader$Declarations;LPhraseReader$Bytes;)I"⟩
abbrev cX5_countWays : ByteArray := prog_7_method_14_code
def yX5_countWays : MethodName := ⟨RX5, "countWays", "(LPhraseReader$Declarations;LPhraseReader$Bytes;)V"⟩
abbrev cX5_countFrom : ByteArray := prog_7_method_15_code
def yX5_countFrom : MethodName := ⟨RX5, "countFrom", "(ILPhraseReader$Declarations;LPhraseReader$Bytes;)J"⟩
abbrev cX5_listFirst : ByteArray := prog_7_method_16_code
def yX5_listFirst : MethodName := ⟨RX5, "listFirst", "(LPhraseReader$Declarations;LPhraseReader$Bytes;)V"⟩
abbrev cX5_firstBehind : ByteArray := prog_7_method_17_code
def yX5_firstBehind : MethodName := ⟨RX5, "firstBehind", "(ILPhraseReader$Declarations;)I"⟩
abbrev cX5_farthest : ByteArray := prog_7_method_18_code
def yX5_farthest : MethodName := ⟨RX5, "farthest", "(LPhraseReader$Declarations;LPhraseReader$Bytes;)I"⟩
abbrev cX5_farthestBehind : ByteArray := prog_7_method_19_code
def yX5_farthestBehind : MethodName := ⟨RX5, "farthestBehind", "(ILPhraseReader$Declarations;LPhraseReader$Bytes;)I"⟩
abbrev cX5_membersGoingOn : ByteArray := prog_7_method_20_code
def yX5_membersGoingOn : MethodName := ⟨RX5, "membersGoingOn", "(LPhraseReader$Declarations;LPhraseReader$Bytes;)I"⟩
def RX6 : String := "PhraseReader"
def TX6 : u_T := fun k => match k with
  | 0 => ("PhraseReader", "text", "LPhraseReader$Bytes;", true)
  | 1 => ("PhraseReader", "normalForm", "LPhraseReader$Bytes;", true)
  | 2 => ("PhraseReader", "now", "LPhraseReader$Declarations;", true)
  | 3 => ("PhraseReader", "history", "LPhraseReader$History;", true)
  | 4 => ("PhraseReader", "images", "[LPhraseReader$Declarations;", true)
  | 5 => ("PhraseReader", "kept", "[Z", true)
  | 6 => ("PhraseReader", "reading", "LPhraseReader$Reading;", true)
  | _ => ("PhraseReader", "orderTable", "LPhraseReader$OrderTable;", true)
def tyX6 : Nat → FieldType := fun k => match k with
  | 0 => .object "PhraseReader$Bytes"
  | 1 => .object "PhraseReader$Bytes"
  | 2 => .object "PhraseReader$Declarations"
  | 3 => .object "PhraseReader$History"
  | 4 => .array (.object "PhraseReader$Declarations")
  | 5 => .array .boolean
  | 6 => .object "PhraseReader$Reading"
  | _ => .object "PhraseReader$OrderTable"
abbrev wsX60 : List Cond := u_ws RX6 TX6 8
theorem nmX6 : ∀ a, a < 8 → ∀ b, b < 8 → a ≠ b → (TX6 a).2.1 ≠ (TX6 b).2.1 := by decide +kernel
theorem tyX6_ok : ∀ k, k < 8 → parseFieldDescriptor (TX6 k).2.2.1 = some (tyX6 k) := by decide +kernel
abbrev cX6_init : ByteArray := prog_1_method_1_code
def yX6_init : MethodName := ⟨RX6, "<init>", "()V"⟩
abbrev cX6_write : ByteArray := prog_1_method_2_code
def yX6_write : MethodName := ⟨RX6, "write", "(I)I"⟩
abbrev cX6_wipe : ByteArray := prog_1_method_3_code
def yX6_wipe : MethodName := ⟨RX6, "wipe", "()I"⟩
abbrev cX6_declare : ByteArray := prog_1_method_4_code
def yX6_declare : MethodName := ⟨RX6, "declare", "(III)I"⟩
abbrev cX6_remove : ByteArray := prog_1_method_5_code
def yX6_remove : MethodName := ⟨RX6, "remove", "(I)I"⟩
abbrev cX6_set : ByteArray := prog_1_method_6_code
def yX6_set : MethodName := ⟨RX6, "set", "(III)I"⟩
abbrev cX6_move : ByteArray := prog_1_method_7_code
def yX6_move : MethodName := ⟨RX6, "move", "(II)I"⟩
abbrev cX6_setSeparator : ByteArray := prog_1_method_8_code
def yX6_setSeparator : MethodName := ⟨RX6, "setSeparator", "(I)I"⟩
abbrev cX6_rule : ByteArray := prog_1_method_9_code
def yX6_rule : MethodName := ⟨RX6, "rule", "(III)I"⟩
abbrev cX6_undo : ByteArray := prog_1_method_10_code
def yX6_undo : MethodName := ⟨RX6, "undo", "()I"⟩
abbrev cX6_beginChange : ByteArray := prog_1_method_11_code
def yX6_beginChange : MethodName := ⟨RX6, "beginChange", "()V"⟩
abbrev cX6_forgetTables : ByteArray := prog_1_method_12_code
def yX6_forgetTables : MethodName := ⟨RX6, "forgetTables", "()V"⟩
abbrev cX6_told : ByteArray := prog_1_method_13_code
def yX6_told : MethodName := ⟨RX6, "told", "(I)I"⟩
abbrev cX6_member : ByteArray := prog_1_method_14_code
def yX6_member : MethodName := ⟨RX6, "member", "(II)I"⟩
abbrev cX6_fault : ByteArray := prog_1_method_15_code
def yX6_fault : MethodName := ⟨RX6, "fault", "()I"⟩
abbrev cX6_readings : ByteArray := prog_1_method_16_code
def yX6_readings : MethodName := ⟨RX6, "readings", "()I"⟩
abbrev cX6_occurrence : ByteArray := prog_1_method_17_code
def yX6_occurrence : MethodName := ⟨RX6, "occurrence", "(II)I"⟩
abbrev cX6_value : ByteArray := prog_1_method_18_code
def yX6_value : MethodName := ⟨RX6, "value", "(II)I"⟩
abbrev cX6_next : ByteArray := prog_1_method_19_code
def yX6_next : MethodName := ⟨RX6, "next", "()I"⟩
abbrev cX6_normal : ByteArray := prog_1_method_20_code
def yX6_normal : MethodName := ⟨RX6, "normal", "(I)I"⟩
abbrev cX6_formNormal : ByteArray := prog_1_method_21_code
def yX6_formNormal : MethodName := ⟨RX6, "formNormal", "()V"⟩
abbrev cX6_orders : ByteArray := prog_1_method_22_code
def yX6_orders : MethodName := ⟨RX6, "orders", "(I)J"⟩
abbrev cX6_order : ByteArray := prog_1_method_23_code
def yX6_order : MethodName := ⟨RX6, "order", "(JI)I"⟩
abbrev cX6_rank : ByteArray := prog_1_method_24_code
def yX6_rank : MethodName := ⟨RX6, "rank", "()J"⟩
abbrev cX6_keep : ByteArray := prog_1_method_25_code
def yX6_keep : MethodName := ⟨RX6, "keep", "(I)I"⟩
abbrev cX6_back : ByteArray := prog_1_method_26_code
def yX6_back : MethodName := ⟨RX6, "back", "(I)I"⟩
abbrev cX6_isImage : ByteArray := prog_1_method_27_code
def yX6_isImage : MethodName := ⟨RX6, "isImage", "(I)Z"⟩
abbrev cX6_isKind : ByteArray := prog_1_method_28_code
def yX6_isKind : MethodName := ⟨RX6, "isKind", "(I)Z"⟩
abbrev cX6_isDigit : ByteArray := prog_1_method_29_code
def yX6_isDigit : MethodName := ⟨RX6, "isDigit", "(I)Z"⟩
abbrev cX6_isSmallLetter : ByteArray := prog_1_method_30_code
def yX6_isSmallLetter : MethodName := ⟨RX6, "isSmallLetter", "(I)Z"⟩
abbrev cX6_isCapital : ByteArray := prog_1_method_31_code
def yX6_isCapital : MethodName := ⟨RX6, "isCapital", "(I)Z"⟩
abbrev cX6_bitOf : ByteArray := prog_1_method_32_code
def yX6_bitOf : MethodName := ⟨RX6, "bitOf", "(II)I"⟩
abbrev cX6_withBit : ByteArray := prog_1_method_33_code
def yX6_withBit : MethodName := ⟨RX6, "withBit", "(III)I"⟩
abbrev cX6_bitsBelow : ByteArray := prog_1_method_34_code
def yX6_bitsBelow : MethodName := ⟨RX6, "bitsBelow", "(II)I"⟩
abbrev cX6_withBitMoved : ByteArray := prog_1_method_35_code
def yX6_withBitMoved : MethodName := ⟨RX6, "withBitMoved", "(III)I"⟩
abbrev cX6_timesIn : ByteArray := prog_1_method_36_code
def yX6_timesIn : MethodName := ⟨RX6, "timesIn", "(II)I"⟩
abbrev cX6_withOneMore : ByteArray := prog_1_method_37_code
def yX6_withOneMore : MethodName := ⟨RX6, "withOneMore", "(II)I"⟩
def RX7 : String := "PhraseReaderModel"
def TX7 : u_T := fun k => match k with
  | 0 => ("PhraseReaderModel", "w", "[I", true)
  | 1 => ("PhraseReaderModel", "past", "[I", true)
  | 2 => ("PhraseReaderModel", "pastMany", "I", false)
  | 3 => ("PhraseReaderModel", "images", "[I", true)
  | 4 => ("PhraseReaderModel", "filled", "I", false)
  | 5 => ("PhraseReaderModel", "text", "[I", true)
  | 6 => ("PhraseReaderModel", "length", "I", false)
  | 7 => ("PhraseReaderModel", "from", "[I", true)
  | 8 => ("PhraseReaderModel", "isReached", "[Z", true)
  | 9 => ("PhraseReaderModel", "ways", "[I", true)
  | 10 => ("PhraseReaderModel", "isLaid", "Z", false)
  | 11 => ("PhraseReaderModel", "members", "[I", true)
  | 12 => ("PhraseReaderModel", "places", "[I", true)
  | 13 => ("PhraseReaderModel", "values", "[I", true)
  | 14 => ("PhraseReaderModel", "form", "[I", true)
  | 15 => ("PhraseReaderModel", "ahead", "[J", true)
  | _ => ("PhraseReaderModel", "behind", "[J", true)
def tyX7 : Nat → FieldType := fun k => match k with
  | 0 => .array .int
  | 1 => .array .int
  | 2 => .int
  | 3 => .array .int
  | 4 => .int
  | 5 => .array .int
  | 6 => .int
  | 7 => .array .int
  | 8 => .array .boolean
  | 9 => .array .int
  | 10 => .boolean
  | 11 => .array .int
  | 12 => .array .int
  | 13 => .array .int
  | 14 => .array .int
  | 15 => .array .long
  | _ => .array .long
abbrev wsX70 : List Cond := u_ws RX7 TX7 17
theorem nmX7 : ∀ a, a < 17 → ∀ b, b < 17 → a ≠ b → (TX7 a).2.1 ≠ (TX7 b).2.1 := by decide +kernel
theorem tyX7_ok : ∀ k, k < 17 → parseFieldDescriptor (TX7 k).2.2.1 = some (tyX7 k) := by decide +kernel
abbrev cX7_init : ByteArray := prog_9_method_1_code
def yX7_init : MethodName := ⟨RX7, "<init>", "()V"⟩
abbrev cX7_isIn : ByteArray := prog_9_method_3_code
def yX7_isIn : MethodName := ⟨RX7, "isIn", "(III)Z"⟩
abbrev cX7_has : ByteArray := prog_9_method_4_code
def yX7_has : MethodName := ⟨RX7, "has", "(II)Z"⟩
abbrev cX7_remember : ByteArray := prog_9_method_5_code
def yX7_remember : MethodName := ⟨RX7, "remember", "()V"⟩
abbrev cX7_isMember : ByteArray := prog_9_method_6_code
def yX7_isMember : MethodName := ⟨RX7, "isMember", "(I)Z"⟩
abbrev cX7_write : ByteArray := prog_9_method_7_code
def yX7_write : MethodName := ⟨RX7, "write", "(I)I"⟩
abbrev cX7_wipe : ByteArray := prog_9_method_8_code
def yX7_wipe : MethodName := ⟨RX7, "wipe", "()I"⟩
abbrev cX7_letter : ByteArray := prog_9_method_9_code
def yX7_letter : MethodName := ⟨RX7, "letter", "(II)I"⟩
abbrev cX7_wordLength : ByteArray := prog_9_method_10_code
def yX7_wordLength : MethodName := ⟨RX7, "wordLength", "(I)I"⟩
abbrev cX7_isWord : ByteArray := prog_9_method_11_code
def yX7_isWord : MethodName := ⟨RX7, "isWord", "()Z"⟩
abbrev cX7_isWordOf : ByteArray := prog_9_method_12_code
def yX7_isWordOf : MethodName := ⟨RX7, "isWordOf", "(I)Z"⟩
abbrev cX7_isNewWord : ByteArray := prog_9_method_13_code
def yX7_isNewWord : MethodName := ⟨RX7, "isNewWord", "()Z"⟩
abbrev cX7_declare : ByteArray := prog_9_method_14_code
def yX7_declare : MethodName := ⟨RX7, "declare", "(III)I"⟩
abbrev cX7_old : ByteArray := prog_9_method_15_code
def yX7_old : MethodName := ⟨RX7, "old", "(I)I"⟩
abbrev cX7_renamed : ByteArray := prog_9_method_16_code
def yX7_renamed : MethodName := ⟨RX7, "renamed", "(II)I"⟩
abbrev cX7_arrange : ByteArray := prog_9_method_17_code
def yX7_arrange : MethodName := ⟨RX7, "arrange", "(I)V"⟩
abbrev cX7_remove : ByteArray := prog_9_method_18_code
def yX7_remove : MethodName := ⟨RX7, "remove", "(I)I"⟩
abbrev cX7_set : ByteArray := prog_9_method_19_code
def yX7_set : MethodName := ⟨RX7, "set", "(III)I"⟩
abbrev cX7_move : ByteArray := prog_9_method_20_code
def yX7_move : MethodName := ⟨RX7, "move", "(II)I"⟩
abbrev cX7_setSeparator : ByteArray := prog_9_method_21_code
def yX7_setSeparator : MethodName := ⟨RX7, "setSeparator", "(I)I"⟩
abbrev cX7_rule : ByteArray := prog_9_method_22_code
def yX7_rule : MethodName := ⟨RX7, "rule", "(III)I"⟩
abbrev cX7_undo : ByteArray := prog_9_method_23_code
def yX7_undo : MethodName := ⟨RX7, "undo", "()I"⟩
abbrev cX7_begins : ByteArray := prog_9_method_24_code
def yX7_begins : MethodName := ⟨RX7, "begins", "(II)Z"⟩
abbrev cX7_clashing : ByteArray := prog_9_method_25_code
def yX7_clashing : MethodName := ⟨RX7, "clashing", "(I)I"⟩
abbrev cX7_size : ByteArray := prog_9_method_26_code
def yX7_size : MethodName := ⟨RX7, "size", "(I)I"⟩
abbrev cX7_rules : ByteArray := prog_9_method_27_code
def yX7_rules : MethodName := ⟨RX7, "rules", "()I"⟩
abbrev cX7_clashes : ByteArray := prog_9_method_28_code
def yX7_clashes : MethodName := ⟨RX7, "clashes", "()I"⟩
abbrev cX7_sumOf : ByteArray := prog_9_method_29_code
def yX7_sumOf : MethodName := ⟨RX7, "sumOf", "(I)I"⟩
abbrev cX7_told : ByteArray := prog_9_method_30_code
def yX7_told : MethodName := ⟨RX7, "told", "(I)I"⟩
abbrev cX7_member : ByteArray := prog_9_method_31_code
def yX7_member : MethodName := ⟨RX7, "member", "(II)I"⟩
abbrev cX7_countIn : ByteArray := prog_9_method_32_code
def yX7_countIn : MethodName := ⟨RX7, "countIn", "(II)I"⟩
abbrev cX7_with : ByteArray := prog_9_method_33_code
def yX7_with : MethodName := ⟨RX7, "with", "(II)I"⟩
abbrev cX7_may : ByteArray := prog_9_method_34_code
def yX7_may : MethodName := ⟨RX7, "may", "(II)Z"⟩
abbrev cX7_isWhole : ByteArray := prog_9_method_35_code
def yX7_isWhole : MethodName := ⟨RX7, "isWhole", "(I)Z"⟩
abbrev cX7_mayFollow : ByteArray := prog_9_method_36_code
def yX7_mayFollow : MethodName := ⟨RX7, "mayFollow", "(I)I"⟩
abbrev cX7_isDigitAt : ByteArray := prog_9_method_37_code
def yX7_isDigitAt : MethodName := ⟨RX7, "isDigitAt", "(I)Z"⟩
abbrev cX7_matched : ByteArray := prog_9_method_38_code
def yX7_matched : MethodName := ⟨RX7, "matched", "(II)I"⟩
abbrev cX7_endOf : ByteArray := prog_9_method_39_code
def yX7_endOf : MethodName := ⟨RX7, "endOf", "(II)I"⟩
abbrev cX7_startOf : ByteArray := prog_9_method_40_code
def yX7_startOf : MethodName := ⟨RX7, "startOf", "(II)I"⟩
abbrev cX7_layBeginnings : ByteArray := prog_9_method_41_code
def yX7_layBeginnings : MethodName := ⟨RX7, "layBeginnings", "()V"⟩
abbrev cX7_waysFrom : ByteArray := prog_9_method_42_code
def yX7_waysFrom : MethodName := ⟨RX7, "waysFrom", "(II)I"⟩
abbrev cX7_layWays : ByteArray := prog_9_method_43_code
def yX7_layWays : MethodName := ⟨RX7, "layWays", "()V"⟩
abbrev cX7_furthest : ByteArray := prog_9_method_44_code
def yX7_furthest : MethodName := ⟨RX7, "furthest", "(II)I"⟩
abbrev cX7_fault : ByteArray := prog_9_method_45_code
def yX7_fault : MethodName := ⟨RX7, "fault", "()I"⟩
abbrev cX7_readings : ByteArray := prog_9_method_46_code
def yX7_readings : MethodName := ⟨RX7, "readings", "()I"⟩
abbrev cX7_valueAt : ByteArray := prog_9_method_47_code
def yX7_valueAt : MethodName := ⟨RX7, "valueAt", "(II)I"⟩
abbrev cX7_layReading : ByteArray := prog_9_method_48_code
def yX7_layReading : MethodName := ⟨RX7, "layReading", "()I"⟩
abbrev cX7_occurrence : ByteArray := prog_9_method_49_code
def yX7_occurrence : MethodName := ⟨RX7, "occurrence", "(II)I"⟩
abbrev cX7_value : ByteArray := prog_9_method_50_code
def yX7_value : MethodName := ⟨RX7, "value", "(II)I"⟩
abbrev cX7_next : ByteArray := prog_9_method_51_code
def yX7_next : MethodName := ⟨RX7, "next", "()I"⟩
abbrev cX7_layValue : ByteArray := prog_9_method_52_code
def yX7_layValue : MethodName := ⟨RX7, "layValue", "(III)I"⟩
abbrev cX7_layForm : ByteArray := prog_9_method_53_code
def yX7_layForm : MethodName := ⟨RX7, "layForm", "(I)I"⟩
abbrev cX7_normal : ByteArray := prog_9_method_54_code
def yX7_normal : MethodName := ⟨RX7, "normal", "(I)I"⟩
abbrev cX7_isState : ByteArray := prog_9_method_55_code
def yX7_isState : MethodName := ⟨RX7, "isState", "(I)Z"⟩
abbrev cX7_layOrders : ByteArray := prog_9_method_56_code
def yX7_layOrders : MethodName := ⟨RX7, "layOrders", "()V"⟩
abbrev cX7_sizeOf : ByteArray := prog_9_method_57_code
def yX7_sizeOf : MethodName := ⟨RX7, "sizeOf", "(I)I"⟩
abbrev cX7_orders : ByteArray := prog_9_method_58_code
def yX7_orders : MethodName := ⟨RX7, "orders", "(I)J"⟩
abbrev cX7_order : ByteArray := prog_9_method_59_code
def yX7_order : MethodName := ⟨RX7, "order", "(JI)I"⟩
abbrev cX7_rank : ByteArray := prog_9_method_60_code
def yX7_rank : MethodName := ⟨RX7, "rank", "()J"⟩
abbrev cX7_keep : ByteArray := prog_9_method_61_code
def yX7_keep : MethodName := ⟨RX7, "keep", "(I)I"⟩
abbrev cX7_back : ByteArray := prog_9_method_62_code
def yX7_back : MethodName := ⟨RX7, "back", "(I)I"⟩
def RJ6 : String := "java/lang/Integer"
def TJ6 : u_T := fun k => match k with
  | _ => ("", "", "", false)
def tyJ6 : Nat → FieldType := fun k => match k with
  | _ => .int
abbrev wsJ60 : List Cond := u_ws RJ6 TJ6 0
theorem nmJ6 : ∀ a, a < 0 → ∀ b, b < 0 → a ≠ b → (TJ6 a).2.1 ≠ (TJ6 b).2.1 := by decide +kernel
theorem tyJ6_ok : ∀ k, k < 0 → parseFieldDescriptor (TJ6 k).2.2.1 = some (tyJ6 k) := by decide +kernel
abbrev cJ6_bitCount_0f7a4 : ByteArray := prog_10_method_49_code
def yJ6_bitCount_0f7a4 : MethodName := ⟨RJ6, "bitCount", "(I)I"⟩
def RJ9 : String := "java/lang/Math"
def TJ9 : u_T := fun k => match k with
  | _ => ("", "", "", false)
def tyJ9 : Nat → FieldType := fun k => match k with
  | _ => .int
abbrev wsJ90 : List Cond := u_ws RJ9 TJ9 0
theorem nmJ9 : ∀ a, a < 0 → ∀ b, b < 0 → a ≠ b → (TJ9 a).2.1 ≠ (TJ9 b).2.1 := by decide +kernel
theorem tyJ9_ok : ∀ k, k < 0 → parseFieldDescriptor (TJ9 k).2.2.1 = some (tyJ9 k) := by decide +kernel
abbrev cJ9_max_7cf53 : ByteArray := prog_11_method_65_code
def yJ9_max_7cf53 : MethodName := ⟨RJ9, "max", "(II)I"⟩
abbrev cJ9_min_7cf53 : ByteArray := prog_11_method_69_code
def yJ9_min_7cf53 : MethodName := ⟨RJ9, "min", "(II)I"⟩
abbrev cJ9_min_f86c9 : ByteArray := prog_11_method_70_code
def yJ9_min_f86c9 : MethodName := ⟨RJ9, "min", "(JJ)J"⟩
def RL : String := "PhraseReaderLaw"
abbrev cL_law : ByteArray := code
def yL_law : MethodName := ⟨RL, "law", "([I)Z"⟩
end
section
/-! base: the classes, the words by name, the cells by their numbers, the rows over the world -/
abbrev vwCl : List vw_C := [(RX0, TX0, 2), (RX1, TX1, 4), (RX2, TX2, 2), (RX3, TX3, 6), (RX4, TX4, 2), (RX5, TX5, 8), (RX6, TX6, 8), (RX7, TX7, 17)]
theorem tb_1 : ∀ w ∈ tables_1_1, w ∈ lw_tbl := fun _ h => List.mem_append_right _ (List.mem_append_left _ h)
theorem tb_2 : ∀ w ∈ tables_1_2, w ∈ lw_tbl := fun _ h => List.mem_append_right _ (List.mem_append_right _ (List.mem_append_left _ h))
theorem tb_3 : ∀ w ∈ tables_1_3, w ∈ lw_tbl := fun _ h => List.mem_append_right _ (List.mem_append_right _ (List.mem_append_right _ (List.mem_append_left _ h)))
theorem tb_4 : ∀ w ∈ tables_1_4, w ∈ lw_tbl := fun _ h => List.mem_append_right _ (List.mem_append_right _ (List.mem_append_right _ (List.mem_append_right _ (h))))
def wL : List Cond := lw_tbl.filter goodWord
theorem wL_in : ∀ w ∈ wL, w ∈ lw_tbl := fun w h => (List.mem_filter.mp h).1
theorem wL_of {w : Cond} (h : w ∈ lw_tbl) (g : goodWord w = true) : w ∈ wL := List.mem_filter.mpr ⟨h, g⟩
theorem in_L : Cond.initialized "PhraseReaderLaw" ∈ wL := wL_of (tb_1 _ (List.mem_of_getElem? (i := 0) rfl)) rfl
theorem in_X6 : Cond.initialized RX6 ∈ wL := wL_of (tb_1 _ (List.mem_of_getElem? (i := 1) rfl)) rfl
theorem in_X0 : Cond.initialized RX0 ∈ wL := wL_of (tb_1 _ (List.mem_of_getElem? (i := 2) rfl)) rfl
theorem in_X1 : Cond.initialized RX1 ∈ wL := wL_of (tb_1 _ (List.mem_of_getElem? (i := 3) rfl)) rfl
theorem in_X3 : Cond.initialized RX3 ∈ wL := wL_of (tb_1 _ (List.mem_of_getElem? (i := 4) rfl)) rfl
theorem in_X2 : Cond.initialized RX2 ∈ wL := wL_of (tb_1 _ (List.mem_of_getElem? (i := 5) rfl)) rfl
theorem in_X5 : Cond.initialized RX5 ∈ wL := wL_of (tb_1 _ (List.mem_of_getElem? (i := 6) rfl)) rfl
theorem in_X4 : Cond.initialized RX4 ∈ wL := wL_of (tb_1 _ (List.mem_of_getElem? (i := 7) rfl)) rfl
theorem in_X7 : Cond.initialized RX7 ∈ wL := wL_of (tb_1 _ (List.mem_of_getElem? (i := 8) rfl)) rfl
theorem in_J6 : Cond.initialized "java/lang/Integer" ∈ wL := wL_of (tb_1 _ (List.mem_of_getElem? (i := 9) rfl)) rfl
theorem in_J9 : Cond.initialized "java/lang/Math" ∈ wL := wL_of (tb_1 _ (List.mem_of_getElem? (i := 10) rfl)) rfl
theorem kl_L_7 : Cond.classLink RL 7 RX6 ∈ wL := wL_of (tb_1 _ (List.mem_of_getElem? (i := 11) rfl)) rfl
theorem ia_X6 : Cond.instantiable RX6 8 ∈ wL := wL_of (tb_1 _ (List.mem_of_getElem? (i := 12) rfl)) rfl
theorem ml_L_9 : Cond.methodLink RL 9 yX6_init ∈ wL := wL_of (tb_1 _ (List.mem_of_getElem? (i := 13) rfl)) rfl
theorem im_X6_init : Cond.instanceMethod yX6_init ∈ wL := wL_of (tb_1 _ (List.mem_of_getElem? (i := 14) rfl)) rfl
theorem co_X6_init : Cond.code yX6_init cX6_init 2 none ∈ wL := wL_of (tb_1 _ (List.mem_of_getElem? (i := 15) rfl)) rfl
theorem ml_X6_1 : Cond.methodLink RX6 1 ({ cls := "java/lang/Object", name := "<init>", desc := "()V" } : Jvm.MethodName) ∈ wL := wL_of (tb_1 _ (List.mem_of_getElem? (i := 16) rfl)) rfl
theorem kl_X6_7 : Cond.classLink RX6 7 RX0 ∈ wL := wL_of (tb_1 _ (List.mem_of_getElem? (i := 19) rfl)) rfl
theorem ia_X0 : Cond.instantiable RX0 2 ∈ wL := wL_of (tb_1 _ (List.mem_of_getElem? (i := 20) rfl)) rfl
theorem im_X0_init : Cond.instanceMethod yX0_init ∈ wL := wL_of (tb_1 _ (List.mem_of_getElem? (i := 22) rfl)) rfl
theorem co_X0_init : Cond.code yX0_init cX0_init 1 none ∈ wL := wL_of (tb_1 _ (List.mem_of_getElem? (i := 23) rfl)) rfl
theorem ml_X0_3 : Cond.methodLink RX0 3 ({ cls := "java/lang/Object", name := "<init>", desc := "()V" } : Jvm.MethodName) ∈ wL := wL_of (tb_1 _ (List.mem_of_getElem? (i := 24) rfl)) rfl
theorem fl_X0_9 : Cond.fieldLink RX0 9 "PhraseReader$Bytes" "codes" "[I" ∈ wL := wL_of (tb_1 _ (List.mem_of_getElem? (i := 25) rfl)) rfl
theorem fl_X0_15 : Cond.fieldLink RX0 15 "PhraseReader$Bytes" "length" "I" ∈ wL := wL_of (tb_1 _ (List.mem_of_getElem? (i := 26) rfl)) rfl
theorem la_X0_codes : Cond.laysFinal "PhraseReader$Bytes" "PhraseReader$Bytes" "codes" "[I" ∈ wL := wL_of (tb_1 _ (List.mem_of_getElem? (i := 29) rfl)) rfl
theorem la_X0_length : Cond.lays "PhraseReader$Bytes" "PhraseReader$Bytes" "length" "I" ∈ wL := wL_of (tb_1 _ (List.mem_of_getElem? (i := 31) rfl)) rfl
theorem ac_I : Cond.arrayClass .int ∈ wL := wL_of (tb_1 _ (List.mem_of_getElem? (i := 34) rfl)) rfl
theorem kl_X6_19 : Cond.classLink RX6 19 RX1 ∈ wL := wL_of (tb_1 _ (List.mem_of_getElem? (i := 35) rfl)) rfl
theorem ia_X1 : Cond.instantiable RX1 4 ∈ wL := wL_of (tb_1 _ (List.mem_of_getElem? (i := 36) rfl)) rfl
theorem im_X1_init : Cond.instanceMethod yX1_init ∈ wL := wL_of (tb_1 _ (List.mem_of_getElem? (i := 38) rfl)) rfl
theorem co_X1_init : Cond.code yX1_init cX1_init 2 none ∈ wL := wL_of (tb_1 _ (List.mem_of_getElem? (i := 39) rfl)) rfl
theorem ml_X1_3 : Cond.methodLink RX1 3 ({ cls := "java/lang/Object", name := "<init>", desc := "()V" } : Jvm.MethodName) ∈ wL := wL_of (tb_1 _ (List.mem_of_getElem? (i := 40) rfl)) rfl
theorem kl_X1_9 : Cond.classLink RX1 9 RX3 ∈ wL := wL_of (tb_1 _ (List.mem_of_getElem? (i := 41) rfl)) rfl
theorem ia_X3 : Cond.instantiable RX3 6 ∈ wL := wL_of (tb_1 _ (List.mem_of_getElem? (i := 43) rfl)) rfl
theorem im_X3_init : Cond.instanceMethod yX3_init ∈ wL := wL_of (tb_1 _ (List.mem_of_getElem? (i := 45) rfl)) rfl
theorem co_X3_init : Cond.code yX3_init cX3_init 1 none ∈ wL := wL_of (tb_1 _ (List.mem_of_getElem? (i := 46) rfl)) rfl
theorem ml_X3_3 : Cond.methodLink RX3 3 ({ cls := "java/lang/Object", name := "<init>", desc := "()V" } : Jvm.MethodName) ∈ wL := wL_of (tb_1 _ (List.mem_of_getElem? (i := 47) rfl)) rfl
theorem fl_X3_9 : Cond.fieldLink RX3 9 "PhraseReader$Member" "word" "I" ∈ wL := wL_of (tb_1 _ (List.mem_of_getElem? (i := 48) rfl)) rfl
theorem fl_X3_15 : Cond.fieldLink RX3 15 "PhraseReader$Member" "kind" "I" ∈ wL := wL_of (tb_1 _ (List.mem_of_getElem? (i := 50) rfl)) rfl
theorem fl_X3_18 : Cond.fieldLink RX3 18 "PhraseReader$Member" "least" "I" ∈ wL := wL_of (tb_1 _ (List.mem_of_getElem? (i := 53) rfl)) rfl
theorem fl_X3_21 : Cond.fieldLink RX3 21 "PhraseReader$Member" "most" "I" ∈ wL := wL_of (tb_1 _ (List.mem_of_getElem? (i := 55) rfl)) rfl
theorem fl_X3_24 : Cond.fieldLink RX3 24 "PhraseReader$Member" "fallback" "I" ∈ wL := wL_of (tb_1 _ (List.mem_of_getElem? (i := 57) rfl)) rfl
theorem fl_X3_27 : Cond.fieldLink RX3 27 "PhraseReader$Member" "before" "I" ∈ wL := wL_of (tb_1 _ (List.mem_of_getElem? (i := 60) rfl)) rfl
theorem la_X3_word : Cond.lays "PhraseReader$Member" "PhraseReader$Member" "word" "I" ∈ wL := wL_of (tb_1 _ (List.mem_of_getElem? (i := 63) rfl)) rfl
theorem la_X3_kind : Cond.lays "PhraseReader$Member" "PhraseReader$Member" "kind" "I" ∈ wL := wL_of (tb_1 _ (List.mem_of_getElem? (i := 65) rfl)) rfl
theorem la_X3_least : Cond.lays "PhraseReader$Member" "PhraseReader$Member" "least" "I" ∈ wL := wL_of (tb_1 _ (List.mem_of_getElem? (i := 67) rfl)) rfl
theorem la_X3_most : Cond.lays "PhraseReader$Member" "PhraseReader$Member" "most" "I" ∈ wL := wL_of (tb_1 _ (List.mem_of_getElem? (i := 69) rfl)) rfl
theorem la_X3_fallback : Cond.lays "PhraseReader$Member" "PhraseReader$Member" "fallback" "I" ∈ wL := wL_of (tb_1 _ (List.mem_of_getElem? (i := 71) rfl)) rfl
theorem la_X3_before : Cond.lays "PhraseReader$Member" "PhraseReader$Member" "before" "I" ∈ wL := wL_of (tb_1 _ (List.mem_of_getElem? (i := 73) rfl)) rfl
theorem fl_X1_11 : Cond.fieldLink RX1 11 "PhraseReader$Declarations" "members" "[LPhraseReader$Member;" ∈ wL := wL_of (tb_1 _ (List.mem_of_getElem? (i := 76) rfl)) rfl
theorem fl_X1_18 : Cond.fieldLink RX1 18 "PhraseReader$Declarations" "nobody" "LPhraseReader$Member;" ∈ wL := wL_of (tb_1 _ (List.mem_of_getElem? (i := 77) rfl)) rfl
theorem fl_X1_22 : Cond.fieldLink RX1 22 "PhraseReader$Declarations" "count" "I" ∈ wL := wL_of (tb_1 _ (List.mem_of_getElem? (i := 78) rfl)) rfl
theorem fl_X1_26 : Cond.fieldLink RX1 26 "PhraseReader$Declarations" "separator" "I" ∈ wL := wL_of (tb_1 _ (List.mem_of_getElem? (i := 82) rfl)) rfl
theorem la_X1_members : Cond.laysFinal "PhraseReader$Declarations" "PhraseReader$Declarations" "members" "[LPhraseReader$Member;" ∈ wL := wL_of (tb_1 _ (List.mem_of_getElem? (i := 85) rfl)) rfl
theorem la_X1_nobody : Cond.laysFinal "PhraseReader$Declarations" "PhraseReader$Declarations" "nobody" "LPhraseReader$Member;" ∈ wL := wL_of (tb_1 _ (List.mem_of_getElem? (i := 87) rfl)) rfl
theorem la_X1_count : Cond.lays "PhraseReader$Declarations" "PhraseReader$Declarations" "count" "I" ∈ wL := wL_of (tb_1 _ (List.mem_of_getElem? (i := 89) rfl)) rfl
theorem la_X1_separator : Cond.lays "PhraseReader$Declarations" "PhraseReader$Declarations" "separator" "I" ∈ wL := wL_of (tb_1 _ (List.mem_of_getElem? (i := 91) rfl)) rfl
theorem kl_X6_26 : Cond.classLink RX6 26 RX2 ∈ wL := wL_of (tb_1 _ (List.mem_of_getElem? (i := 94) rfl)) rfl
theorem ia_X2 : Cond.instantiable RX2 2 ∈ wL := wL_of (tb_1 _ (List.mem_of_getElem? (i := 95) rfl)) rfl
theorem im_X2_init : Cond.instanceMethod yX2_init ∈ wL := wL_of (tb_1 _ (List.mem_of_getElem? (i := 97) rfl)) rfl
theorem co_X2_init : Cond.code yX2_init cX2_init 2 none ∈ wL := wL_of (tb_1 _ (List.mem_of_getElem? (i := 98) rfl)) rfl
theorem ml_X2_3 : Cond.methodLink RX2 3 ({ cls := "java/lang/Object", name := "<init>", desc := "()V" } : Jvm.MethodName) ∈ wL := wL_of (tb_1 _ (List.mem_of_getElem? (i := 99) rfl)) rfl
theorem kl_X2_9 : Cond.classLink RX2 9 RX1 ∈ wL := wL_of (tb_1 _ (List.mem_of_getElem? (i := 100) rfl)) rfl
theorem fl_X2_11 : Cond.fieldLink RX2 11 "PhraseReader$History" "states" "[LPhraseReader$Declarations;" ∈ wL := wL_of (tb_1 _ (List.mem_of_getElem? (i := 103) rfl)) rfl
theorem fl_X2_18 : Cond.fieldLink RX2 18 "PhraseReader$History" "count" "I" ∈ wL := wL_of (tb_1 _ (List.mem_of_getElem? (i := 104) rfl)) rfl
theorem la_X2_states : Cond.laysFinal "PhraseReader$History" "PhraseReader$History" "states" "[LPhraseReader$Declarations;" ∈ wL := wL_of (tb_1 _ (List.mem_of_getElem? (i := 106) rfl)) rfl
theorem la_X2_count : Cond.lays "PhraseReader$History" "PhraseReader$History" "count" "I" ∈ wL := wL_of (tb_1 _ (List.mem_of_getElem? (i := 108) rfl)) rfl
theorem kl_X6_41 : Cond.classLink RX6 41 RX5 ∈ wL := wL_of (tb_1 _ (List.mem_of_getElem? (i := 111) rfl)) rfl
theorem ia_X5 : Cond.instantiable RX5 8 ∈ wL := wL_of (tb_1 _ (List.mem_of_getElem? (i := 112) rfl)) rfl
theorem im_X5_init : Cond.instanceMethod yX5_init ∈ wL := wL_of (tb_1 _ (List.mem_of_getElem? (i := 114) rfl)) rfl
theorem co_X5_init : Cond.code yX5_init cX5_init 1 none ∈ wL := wL_of (tb_1 _ (List.mem_of_getElem? (i := 115) rfl)) rfl
theorem ml_X5_3 : Cond.methodLink RX5 3 ({ cls := "java/lang/Object", name := "<init>", desc := "()V" } : Jvm.MethodName) ∈ wL := wL_of (tb_1 _ (List.mem_of_getElem? (i := 116) rfl)) rfl
theorem fl_X5_9 : Cond.fieldLink RX5 9 "PhraseReader$Reading" "ends" "[I" ∈ wL := wL_of (tb_1 _ (List.mem_of_getElem? (i := 117) rfl)) rfl
theorem fl_X5_15 : Cond.fieldLink RX5 15 "PhraseReader$Reading" "steps" "[I" ∈ wL := wL_of (tb_1 _ (List.mem_of_getElem? (i := 118) rfl)) rfl
theorem fl_X5_18 : Cond.fieldLink RX5 18 "PhraseReader$Reading" "ways" "[J" ∈ wL := wL_of (tb_1 _ (List.mem_of_getElem? (i := 119) rfl)) rfl
theorem fl_X5_22 : Cond.fieldLink RX5 22 "PhraseReader$Reading" "members" "[I" ∈ wL := wL_of (tb_1 _ (List.mem_of_getElem? (i := 120) rfl)) rfl
theorem fl_X5_25 : Cond.fieldLink RX5 25 "PhraseReader$Reading" "starts" "[I" ∈ wL := wL_of (tb_1 _ (List.mem_of_getElem? (i := 121) rfl)) rfl
theorem fl_X5_28 : Cond.fieldLink RX5 28 "PhraseReader$Reading" "numbers" "[I" ∈ wL := wL_of (tb_1 _ (List.mem_of_getElem? (i := 122) rfl)) rfl
theorem fl_X5_49 : Cond.fieldLink RX5 49 "PhraseReader$Reading" "count" "I" ∈ wL := wL_of (tb_1 _ (List.mem_of_getElem? (i := 123) rfl)) rfl
theorem fl_X5_31 : Cond.fieldLink RX5 31 "PhraseReader$Reading" "known" "Z" ∈ wL := wL_of (tb_1 _ (List.mem_of_getElem? (i := 126) rfl)) rfl
theorem la_X5_ends : Cond.laysFinal "PhraseReader$Reading" "PhraseReader$Reading" "ends" "[I" ∈ wL := wL_of (tb_1 _ (List.mem_of_getElem? (i := 127) rfl)) rfl
theorem la_X5_steps : Cond.laysFinal "PhraseReader$Reading" "PhraseReader$Reading" "steps" "[I" ∈ wL := wL_of (tb_1 _ (List.mem_of_getElem? (i := 129) rfl)) rfl
theorem la_X5_ways : Cond.laysFinal "PhraseReader$Reading" "PhraseReader$Reading" "ways" "[J" ∈ wL := wL_of (tb_1 _ (List.mem_of_getElem? (i := 131) rfl)) rfl
theorem la_X5_members : Cond.laysFinal "PhraseReader$Reading" "PhraseReader$Reading" "members" "[I" ∈ wL := wL_of (tb_1 _ (List.mem_of_getElem? (i := 133) rfl)) rfl
theorem la_X5_starts : Cond.laysFinal "PhraseReader$Reading" "PhraseReader$Reading" "starts" "[I" ∈ wL := wL_of (tb_1 _ (List.mem_of_getElem? (i := 135) rfl)) rfl
theorem la_X5_numbers : Cond.laysFinal "PhraseReader$Reading" "PhraseReader$Reading" "numbers" "[I" ∈ wL := wL_of (tb_1 _ (List.mem_of_getElem? (i := 137) rfl)) rfl
theorem la_X5_count : Cond.lays "PhraseReader$Reading" "PhraseReader$Reading" "count" "I" ∈ wL := wL_of (tb_1 _ (List.mem_of_getElem? (i := 139) rfl)) rfl
theorem la_X5_known : Cond.lays "PhraseReader$Reading" "PhraseReader$Reading" "known" "Z" ∈ wL := wL_of (tb_1 _ (List.mem_of_getElem? (i := 141) rfl)) rfl
theorem ac_Z : Cond.arrayClass .boolean ∈ wL := wL_of (tb_1 _ (List.mem_of_getElem? (i := 144) rfl)) rfl
theorem ac_J : Cond.arrayClass .long ∈ wL := wL_of (tb_1 _ (List.mem_of_getElem? (i := 145) rfl)) rfl
theorem kl_X6_48 : Cond.classLink RX6 48 RX4 ∈ wL := wL_of (tb_1 _ (List.mem_of_getElem? (i := 146) rfl)) rfl
theorem ia_X4 : Cond.instantiable RX4 2 ∈ wL := wL_of (tb_1 _ (List.mem_of_getElem? (i := 147) rfl)) rfl
theorem im_X4_init : Cond.instanceMethod yX4_init ∈ wL := wL_of (tb_1 _ (List.mem_of_getElem? (i := 149) rfl)) rfl
theorem co_X4_init : Cond.code yX4_init cX4_init 1 none ∈ wL := wL_of (tb_1 _ (List.mem_of_getElem? (i := 150) rfl)) rfl
theorem ml_X4_3 : Cond.methodLink RX4 3 ({ cls := "java/lang/Object", name := "<init>", desc := "()V" } : Jvm.MethodName) ∈ wL := wL_of (tb_1 _ (List.mem_of_getElem? (i := 151) rfl)) rfl
theorem fl_X4_9 : Cond.fieldLink RX4 9 "PhraseReader$OrderTable" "counts" "[J" ∈ wL := wL_of (tb_1 _ (List.mem_of_getElem? (i := 152) rfl)) rfl
theorem fl_X4_15 : Cond.fieldLink RX4 15 "PhraseReader$OrderTable" "knownLength" "I" ∈ wL := wL_of (tb_1 _ (List.mem_of_getElem? (i := 153) rfl)) rfl
theorem la_X4_counts : Cond.laysFinal "PhraseReader$OrderTable" "PhraseReader$OrderTable" "counts" "[J" ∈ wL := wL_of (tb_1 _ (List.mem_of_getElem? (i := 154) rfl)) rfl
theorem la_X4_knownLength : Cond.lays "PhraseReader$OrderTable" "PhraseReader$OrderTable" "knownLength" "I" ∈ wL := wL_of (tb_1 _ (List.mem_of_getElem? (i := 156) rfl)) rfl
theorem fl_X6_10 : Cond.fieldLink RX6 10 "PhraseReader" "text" "LPhraseReader$Bytes;" ∈ wL := wL_of (tb_1 _ (List.mem_of_getElem? (i := 159) rfl)) rfl
theorem fl_X6_16 : Cond.fieldLink RX6 16 "PhraseReader" "normalForm" "LPhraseReader$Bytes;" ∈ wL := wL_of (tb_1 _ (List.mem_of_getElem? (i := 160) rfl)) rfl
theorem fl_X6_22 : Cond.fieldLink RX6 22 "PhraseReader" "now" "LPhraseReader$Declarations;" ∈ wL := wL_of (tb_1 _ (List.mem_of_getElem? (i := 161) rfl)) rfl
theorem fl_X6_29 : Cond.fieldLink RX6 29 "PhraseReader" "history" "LPhraseReader$History;" ∈ wL := wL_of (tb_1 _ (List.mem_of_getElem? (i := 162) rfl)) rfl
theorem fl_X6_33 : Cond.fieldLink RX6 33 "PhraseReader" "images" "[LPhraseReader$Declarations;" ∈ wL := wL_of (tb_1 _ (List.mem_of_getElem? (i := 163) rfl)) rfl
theorem fl_X6_37 : Cond.fieldLink RX6 37 "PhraseReader" "kept" "[Z" ∈ wL := wL_of (tb_1 _ (List.mem_of_getElem? (i := 164) rfl)) rfl
theorem fl_X6_44 : Cond.fieldLink RX6 44 "PhraseReader" "reading" "LPhraseReader$Reading;" ∈ wL := wL_of (tb_1 _ (List.mem_of_getElem? (i := 165) rfl)) rfl
theorem fl_X6_51 : Cond.fieldLink RX6 51 "PhraseReader" "orderTable" "LPhraseReader$OrderTable;" ∈ wL := wL_of (tb_1 _ (List.mem_of_getElem? (i := 166) rfl)) rfl
theorem la_X6_text : Cond.laysFinal "PhraseReader" "PhraseReader" "text" "LPhraseReader$Bytes;" ∈ wL := wL_of (tb_1 _ (List.mem_of_getElem? (i := 167) rfl)) rfl
theorem la_X6_normalForm : Cond.laysFinal "PhraseReader" "PhraseReader" "normalForm" "LPhraseReader$Bytes;" ∈ wL := wL_of (tb_1 _ (List.mem_of_getElem? (i := 169) rfl)) rfl
theorem la_X6_now : Cond.laysFinal "PhraseReader" "PhraseReader" "now" "LPhraseReader$Declarations;" ∈ wL := wL_of (tb_1 _ (List.mem_of_getElem? (i := 171) rfl)) rfl
theorem la_X6_history : Cond.laysFinal "PhraseReader" "PhraseReader" "history" "LPhraseReader$History;" ∈ wL := wL_of (tb_1 _ (List.mem_of_getElem? (i := 173) rfl)) rfl
theorem la_X6_images : Cond.laysFinal "PhraseReader" "PhraseReader" "images" "[LPhraseReader$Declarations;" ∈ wL := wL_of (tb_1 _ (List.mem_of_getElem? (i := 175) rfl)) rfl
theorem la_X6_kept : Cond.laysFinal "PhraseReader" "PhraseReader" "kept" "[Z" ∈ wL := wL_of (tb_1 _ (List.mem_of_getElem? (i := 177) rfl)) rfl
theorem la_X6_reading : Cond.laysFinal "PhraseReader" "PhraseReader" "reading" "LPhraseReader$Reading;" ∈ wL := wL_of (tb_1 _ (List.mem_of_getElem? (i := 179) rfl)) rfl
theorem la_X6_orderTable : Cond.laysFinal "PhraseReader" "PhraseReader" "orderTable" "LPhraseReader$OrderTable;" ∈ wL := wL_of (tb_1 _ (List.mem_of_getElem? (i := 181) rfl)) rfl
theorem ml_L_13 : Cond.methodLink RL 13 yX6_write ∈ wL := wL_of (tb_1 _ (List.mem_of_getElem? (i := 184) rfl)) rfl
theorem im_X6_write : Cond.instanceMethod yX6_write ∈ wL := wL_of (tb_1 _ (List.mem_of_getElem? (i := 185) rfl)) rfl
theorem se_X6_write : Cond.selects RX6 yX6_write yX6_write ∈ wL := wL_of (tb_1 _ (List.mem_of_getElem? (i := 186) rfl)) rfl
theorem co_X6_write : Cond.code yX6_write cX6_write 2 (some .int) ∈ wL := wL_of (tb_1 _ (List.mem_of_getElem? (i := 187) rfl)) rfl
theorem im_X0_append : Cond.instanceMethod yX0_append ∈ wL := wL_of (tb_1 _ (List.mem_of_getElem? (i := 190) rfl)) rfl
theorem co_X0_append : Cond.code yX0_append cX0_append 2 (some .boolean) ∈ wL := wL_of (tb_1 _ (List.mem_of_getElem? (i := 191) rfl)) rfl
theorem im_X5_forget : Cond.instanceMethod yX5_forget ∈ wL := wL_of (tb_1 _ (List.mem_of_getElem? (i := 194) rfl)) rfl
theorem co_X5_forget : Cond.code yX5_forget cX5_forget 1 none ∈ wL := wL_of (tb_1 _ (List.mem_of_getElem? (i := 195) rfl)) rfl
theorem ml_L_18 : Cond.methodLink RL 18 yX6_wipe ∈ wL := wL_of (tb_1 _ (List.mem_of_getElem? (i := 196) rfl)) rfl
theorem im_X6_wipe : Cond.instanceMethod yX6_wipe ∈ wL := wL_of (tb_1 _ (List.mem_of_getElem? (i := 197) rfl)) rfl
theorem se_X6_wipe : Cond.selects RX6 yX6_wipe yX6_wipe ∈ wL := wL_of (tb_1 _ (List.mem_of_getElem? (i := 198) rfl)) rfl
theorem co_X6_wipe : Cond.code yX6_wipe cX6_wipe 2 (some .int) ∈ wL := wL_of (tb_1 _ (List.mem_of_getElem? (i := 199) rfl)) rfl
theorem im_X0_clear : Cond.instanceMethod yX0_clear ∈ wL := wL_of (tb_1 _ (List.mem_of_getElem? (i := 202) rfl)) rfl
theorem co_X0_clear : Cond.code yX0_clear cX0_clear 1 none ∈ wL := wL_of (tb_1 _ (List.mem_of_getElem? (i := 203) rfl)) rfl
theorem ml_L_23 : Cond.methodLink RL 23 yX6_declare ∈ wL := wL_of (tb_1 _ (List.mem_of_getElem? (i := 204) rfl)) rfl
theorem im_X6_declare : Cond.instanceMethod yX6_declare ∈ wL := wL_of (tb_1 _ (List.mem_of_getElem? (i := 205) rfl)) rfl
theorem se_X6_declare : Cond.selects RX6 yX6_declare yX6_declare ∈ wL := wL_of (tb_1 _ (List.mem_of_getElem? (i := 206) rfl)) rfl
theorem co_X6_declare : Cond.code yX6_declare cX6_declare 6 (some .int) ∈ wL := wL_of (tb_1 _ (List.mem_of_getElem? (i := 207) rfl)) rfl
theorem ml_X6_69 : Cond.methodLink RX6 69 yX6_isKind ∈ wL := wL_of (tb_1 _ (List.mem_of_getElem? (i := 208) rfl)) rfl
theorem st_X6_isKind : Cond.static yX6_isKind ∈ wL := wL_of (tb_1 _ (List.mem_of_getElem? (i := 209) rfl)) rfl
theorem co_X6_isKind : Cond.code yX6_isKind cX6_isKind 1 (some .boolean) ∈ wL := wL_of (tb_1 _ (List.mem_of_getElem? (i := 210) rfl)) rfl
theorem im_X0_asWord : Cond.instanceMethod yX0_asWord ∈ wL := wL_of (tb_1 _ (List.mem_of_getElem? (i := 213) rfl)) rfl
theorem co_X0_asWord : Cond.code yX0_asWord cX0_asWord 3 (some .int) ∈ wL := wL_of (tb_1 _ (List.mem_of_getElem? (i := 214) rfl)) rfl
theorem ml_X0_19 : Cond.methodLink RX0 19 yX0_at ∈ wL := wL_of (tb_1 _ (List.mem_of_getElem? (i := 215) rfl)) rfl
theorem im_X0_at : Cond.instanceMethod yX0_at ∈ wL := wL_of (tb_1 _ (List.mem_of_getElem? (i := 217) rfl)) rfl
theorem co_X0_at : Cond.code yX0_at cX0_at 2 (some .int) ∈ wL := wL_of (tb_1 _ (List.mem_of_getElem? (i := 218) rfl)) rfl
theorem st_X6_isSmallLetter : Cond.static yX6_isSmallLetter ∈ wL := wL_of (tb_1 _ (List.mem_of_getElem? (i := 220) rfl)) rfl
theorem co_X6_isSmallLetter : Cond.code yX6_isSmallLetter cX6_isSmallLetter 1 (some .boolean) ∈ wL := wL_of (tb_1 _ (List.mem_of_getElem? (i := 221) rfl)) rfl
theorem im_X1_hasWord : Cond.instanceMethod yX1_hasWord ∈ wL := wL_of (tb_1 _ (List.mem_of_getElem? (i := 224) rfl)) rfl
theorem co_X1_hasWord : Cond.code yX1_hasWord cX1_hasWord 3 (some .boolean) ∈ wL := wL_of (tb_1 _ (List.mem_of_getElem? (i := 225) rfl)) rfl
theorem ml_X1_29 : Cond.methodLink RX1 29 yX1_at ∈ wL := wL_of (tb_1 _ (List.mem_of_getElem? (i := 226) rfl)) rfl
theorem im_X1_at : Cond.instanceMethod yX1_at ∈ wL := wL_of (tb_1 _ (List.mem_of_getElem? (i := 228) rfl)) rfl
theorem co_X1_at : Cond.code yX1_at cX1_at 2 (some (.object "PhraseReader$Member")) ∈ wL := wL_of (tb_1 _ (List.mem_of_getElem? (i := 229) rfl)) rfl
theorem ml_X6_82 : Cond.methodLink RX6 82 yX6_beginChange ∈ wL := wL_of (tb_1 _ (List.mem_of_getElem? (i := 230) rfl)) rfl
theorem im_X6_beginChange : Cond.instanceMethod yX6_beginChange ∈ wL := wL_of (tb_1 _ (List.mem_of_getElem? (i := 232) rfl)) rfl
theorem co_X6_beginChange : Cond.code yX6_beginChange cX6_beginChange 1 none ∈ wL := wL_of (tb_1 _ (List.mem_of_getElem? (i := 233) rfl)) rfl
theorem im_X2_record : Cond.instanceMethod yX2_record ∈ wL := wL_of (tb_1 _ (List.mem_of_getElem? (i := 236) rfl)) rfl
theorem co_X2_record : Cond.code yX2_record cX2_record 2 none ∈ wL := wL_of (tb_1 _ (List.mem_of_getElem? (i := 237) rfl)) rfl
theorem ml_X2_22 : Cond.methodLink RX2 22 yX2_dropOldest ∈ wL := wL_of (tb_1 _ (List.mem_of_getElem? (i := 238) rfl)) rfl
theorem im_X2_dropOldest : Cond.instanceMethod yX2_dropOldest ∈ wL := wL_of (tb_2 _ (List.mem_of_getElem? (i := 0) rfl)) rfl
theorem co_X2_dropOldest : Cond.code yX2_dropOldest cX2_dropOldest 3 none ∈ wL := wL_of (tb_2 _ (List.mem_of_getElem? (i := 1) rfl)) rfl
theorem im_X1_copyFrom : Cond.instanceMethod yX1_copyFrom ∈ wL := wL_of (tb_2 _ (List.mem_of_getElem? (i := 4) rfl)) rfl
theorem co_X1_copyFrom : Cond.code yX1_copyFrom cX1_copyFrom 3 none ∈ wL := wL_of (tb_2 _ (List.mem_of_getElem? (i := 5) rfl)) rfl
theorem im_X3_copyFrom : Cond.instanceMethod yX3_copyFrom ∈ wL := wL_of (tb_2 _ (List.mem_of_getElem? (i := 8) rfl)) rfl
theorem co_X3_copyFrom : Cond.code yX3_copyFrom cX3_copyFrom 2 none ∈ wL := wL_of (tb_2 _ (List.mem_of_getElem? (i := 9) rfl)) rfl
theorem ml_X6_132 : Cond.methodLink RX6 132 yX6_forgetTables ∈ wL := wL_of (tb_2 _ (List.mem_of_getElem? (i := 10) rfl)) rfl
theorem im_X6_forgetTables : Cond.instanceMethod yX6_forgetTables ∈ wL := wL_of (tb_2 _ (List.mem_of_getElem? (i := 12) rfl)) rfl
theorem co_X6_forgetTables : Cond.code yX6_forgetTables cX6_forgetTables 1 none ∈ wL := wL_of (tb_2 _ (List.mem_of_getElem? (i := 13) rfl)) rfl
theorem im_X4_forget : Cond.instanceMethod yX4_forget ∈ wL := wL_of (tb_2 _ (List.mem_of_getElem? (i := 16) rfl)) rfl
theorem co_X4_forget : Cond.code yX4_forget cX4_forget 1 none ∈ wL := wL_of (tb_2 _ (List.mem_of_getElem? (i := 17) rfl)) rfl
theorem im_X1_add : Cond.instanceMethod yX1_add ∈ wL := wL_of (tb_2 _ (List.mem_of_getElem? (i := 20) rfl)) rfl
theorem co_X1_add : Cond.code yX1_add cX1_add 6 (some .int) ∈ wL := wL_of (tb_2 _ (List.mem_of_getElem? (i := 21) rfl)) rfl
theorem ml_L_28 : Cond.methodLink RL 28 yX6_remove ∈ wL := wL_of (tb_2 _ (List.mem_of_getElem? (i := 22) rfl)) rfl
theorem im_X6_remove : Cond.instanceMethod yX6_remove ∈ wL := wL_of (tb_2 _ (List.mem_of_getElem? (i := 23) rfl)) rfl
theorem se_X6_remove : Cond.selects RX6 yX6_remove yX6_remove ∈ wL := wL_of (tb_2 _ (List.mem_of_getElem? (i := 24) rfl)) rfl
theorem co_X6_remove : Cond.code yX6_remove cX6_remove 2 (some .int) ∈ wL := wL_of (tb_2 _ (List.mem_of_getElem? (i := 25) rfl)) rfl
theorem im_X1_has : Cond.instanceMethod yX1_has ∈ wL := wL_of (tb_2 _ (List.mem_of_getElem? (i := 28) rfl)) rfl
theorem co_X1_has : Cond.code yX1_has cX1_has 2 (some .boolean) ∈ wL := wL_of (tb_2 _ (List.mem_of_getElem? (i := 29) rfl)) rfl
theorem im_X1_takeOut : Cond.instanceMethod yX1_takeOut ∈ wL := wL_of (tb_2 _ (List.mem_of_getElem? (i := 32) rfl)) rfl
theorem co_X1_takeOut : Cond.code yX1_takeOut cX1_takeOut 3 none ∈ wL := wL_of (tb_2 _ (List.mem_of_getElem? (i := 33) rfl)) rfl
theorem ml_X1_55 : Cond.methodLink RX1 55 yX1_has ∈ wL := wL_of (tb_2 _ (List.mem_of_getElem? (i := 34) rfl)) rfl
theorem ml_X1_63 : Cond.methodLink RX1 63 yX1_reseat ∈ wL := wL_of (tb_2 _ (List.mem_of_getElem? (i := 35) rfl)) rfl
theorem im_X1_reseat : Cond.instanceMethod yX1_reseat ∈ wL := wL_of (tb_2 _ (List.mem_of_getElem? (i := 37) rfl)) rfl
theorem co_X1_reseat : Cond.code yX1_reseat cX1_reseat 5 none ∈ wL := wL_of (tb_2 _ (List.mem_of_getElem? (i := 38) rfl)) rfl
theorem st_X6_withBitMoved : Cond.static yX6_withBitMoved ∈ wL := wL_of (tb_2 _ (List.mem_of_getElem? (i := 40) rfl)) rfl
theorem co_X6_withBitMoved : Cond.code yX6_withBitMoved cX6_withBitMoved 4 (some .int) ∈ wL := wL_of (tb_2 _ (List.mem_of_getElem? (i := 41) rfl)) rfl
theorem ml_X6_237 : Cond.methodLink RX6 237 yX6_bitsBelow ∈ wL := wL_of (tb_2 _ (List.mem_of_getElem? (i := 42) rfl)) rfl
theorem st_X6_bitsBelow : Cond.static yX6_bitsBelow ∈ wL := wL_of (tb_2 _ (List.mem_of_getElem? (i := 43) rfl)) rfl
theorem co_X6_bitsBelow : Cond.code yX6_bitsBelow cX6_bitsBelow 2 (some .int) ∈ wL := wL_of (tb_2 _ (List.mem_of_getElem? (i := 44) rfl)) rfl
theorem ml_X6_120 : Cond.methodLink RX6 120 yX6_bitOf ∈ wL := wL_of (tb_2 _ (List.mem_of_getElem? (i := 45) rfl)) rfl
theorem st_X6_bitOf : Cond.static yX6_bitOf ∈ wL := wL_of (tb_2 _ (List.mem_of_getElem? (i := 46) rfl)) rfl
theorem co_X6_bitOf : Cond.code yX6_bitOf cX6_bitOf 2 (some .int) ∈ wL := wL_of (tb_2 _ (List.mem_of_getElem? (i := 47) rfl)) rfl
theorem ml_L_32 : Cond.methodLink RL 32 yX6_set ∈ wL := wL_of (tb_2 _ (List.mem_of_getElem? (i := 49) rfl)) rfl
theorem im_X6_set : Cond.instanceMethod yX6_set ∈ wL := wL_of (tb_2 _ (List.mem_of_getElem? (i := 50) rfl)) rfl
theorem se_X6_set : Cond.selects RX6 yX6_set yX6_set ∈ wL := wL_of (tb_2 _ (List.mem_of_getElem? (i := 51) rfl)) rfl
theorem co_X6_set : Cond.code yX6_set cX6_set 4 (some .int) ∈ wL := wL_of (tb_2 _ (List.mem_of_getElem? (i := 52) rfl)) rfl
theorem im_X3_accepts : Cond.instanceMethod yX3_accepts ∈ wL := wL_of (tb_2 _ (List.mem_of_getElem? (i := 56) rfl)) rfl
theorem co_X3_accepts : Cond.code yX3_accepts cX3_accepts 3 (some .boolean) ∈ wL := wL_of (tb_2 _ (List.mem_of_getElem? (i := 57) rfl)) rfl
theorem im_X3_exchange : Cond.instanceMethod yX3_exchange ∈ wL := wL_of (tb_2 _ (List.mem_of_getElem? (i := 61) rfl)) rfl
theorem co_X3_exchange : Cond.code yX3_exchange cX3_exchange 4 (some .int) ∈ wL := wL_of (tb_2 _ (List.mem_of_getElem? (i := 62) rfl)) rfl
theorem ml_X3_48 : Cond.methodLink RX3 48 yX3_property ∈ wL := wL_of (tb_2 _ (List.mem_of_getElem? (i := 63) rfl)) rfl
theorem im_X3_property : Cond.instanceMethod yX3_property ∈ wL := wL_of (tb_2 _ (List.mem_of_getElem? (i := 65) rfl)) rfl
theorem co_X3_property : Cond.code yX3_property cX3_property 2 (some .int) ∈ wL := wL_of (tb_2 _ (List.mem_of_getElem? (i := 66) rfl)) rfl
theorem ml_L_36 : Cond.methodLink RL 36 yX6_move ∈ wL := wL_of (tb_2 _ (List.mem_of_getElem? (i := 67) rfl)) rfl
theorem im_X6_move : Cond.instanceMethod yX6_move ∈ wL := wL_of (tb_2 _ (List.mem_of_getElem? (i := 68) rfl)) rfl
theorem se_X6_move : Cond.selects RX6 yX6_move yX6_move ∈ wL := wL_of (tb_2 _ (List.mem_of_getElem? (i := 69) rfl)) rfl
theorem co_X6_move : Cond.code yX6_move cX6_move 3 (some .int) ∈ wL := wL_of (tb_2 _ (List.mem_of_getElem? (i := 70) rfl)) rfl
theorem ml_L_41 : Cond.methodLink RL 41 yX6_setSeparator ∈ wL := wL_of (tb_2 _ (List.mem_of_getElem? (i := 72) rfl)) rfl
theorem im_X6_setSeparator : Cond.instanceMethod yX6_setSeparator ∈ wL := wL_of (tb_2 _ (List.mem_of_getElem? (i := 73) rfl)) rfl
theorem se_X6_setSeparator : Cond.selects RX6 yX6_setSeparator yX6_setSeparator ∈ wL := wL_of (tb_2 _ (List.mem_of_getElem? (i := 74) rfl)) rfl
theorem co_X6_setSeparator : Cond.code yX6_setSeparator cX6_setSeparator 3 (some .int) ∈ wL := wL_of (tb_2 _ (List.mem_of_getElem? (i := 75) rfl)) rfl
theorem ml_L_45 : Cond.methodLink RL 45 yX6_rule ∈ wL := wL_of (tb_2 _ (List.mem_of_getElem? (i := 76) rfl)) rfl
theorem im_X6_rule : Cond.instanceMethod yX6_rule ∈ wL := wL_of (tb_2 _ (List.mem_of_getElem? (i := 77) rfl)) rfl
theorem se_X6_rule : Cond.selects RX6 yX6_rule yX6_rule ∈ wL := wL_of (tb_2 _ (List.mem_of_getElem? (i := 78) rfl)) rfl
theorem co_X6_rule : Cond.code yX6_rule cX6_rule 6 (some .int) ∈ wL := wL_of (tb_2 _ (List.mem_of_getElem? (i := 79) rfl)) rfl
theorem ml_X6_123 : Cond.methodLink RX6 123 yX6_withBit ∈ wL := wL_of (tb_2 _ (List.mem_of_getElem? (i := 80) rfl)) rfl
theorem st_X6_withBit : Cond.static yX6_withBit ∈ wL := wL_of (tb_2 _ (List.mem_of_getElem? (i := 81) rfl)) rfl
theorem co_X6_withBit : Cond.code yX6_withBit cX6_withBit 3 (some .int) ∈ wL := wL_of (tb_2 _ (List.mem_of_getElem? (i := 82) rfl)) rfl
theorem ml_L_49 : Cond.methodLink RL 49 yX6_undo ∈ wL := wL_of (tb_2 _ (List.mem_of_getElem? (i := 83) rfl)) rfl
theorem im_X6_undo : Cond.instanceMethod yX6_undo ∈ wL := wL_of (tb_2 _ (List.mem_of_getElem? (i := 84) rfl)) rfl
theorem se_X6_undo : Cond.selects RX6 yX6_undo yX6_undo ∈ wL := wL_of (tb_2 _ (List.mem_of_getElem? (i := 85) rfl)) rfl
theorem co_X6_undo : Cond.code yX6_undo cX6_undo 1 (some .int) ∈ wL := wL_of (tb_2 _ (List.mem_of_getElem? (i := 86) rfl)) rfl
theorem im_X2_restore : Cond.instanceMethod yX2_restore ∈ wL := wL_of (tb_2 _ (List.mem_of_getElem? (i := 89) rfl)) rfl
theorem co_X2_restore : Cond.code yX2_restore cX2_restore 2 none ∈ wL := wL_of (tb_2 _ (List.mem_of_getElem? (i := 90) rfl)) rfl
theorem ml_L_53 : Cond.methodLink RL 53 yX6_told ∈ wL := wL_of (tb_2 _ (List.mem_of_getElem? (i := 91) rfl)) rfl
theorem im_X6_told : Cond.instanceMethod yX6_told ∈ wL := wL_of (tb_2 _ (List.mem_of_getElem? (i := 92) rfl)) rfl
theorem se_X6_told : Cond.selects RX6 yX6_told yX6_told ∈ wL := wL_of (tb_2 _ (List.mem_of_getElem? (i := 93) rfl)) rfl
theorem co_X6_told : Cond.code yX6_told cX6_told 2 (some .int) ∈ wL := wL_of (tb_2 _ (List.mem_of_getElem? (i := 94) rfl)) rfl
theorem im_X1_countRules : Cond.instanceMethod yX1_countRules ∈ wL := wL_of (tb_2 _ (List.mem_of_getElem? (i := 97) rfl)) rfl
theorem co_X1_countRules : Cond.code yX1_countRules cX1_countRules 3 (some .int) ∈ wL := wL_of (tb_2 _ (List.mem_of_getElem? (i := 98) rfl)) rfl
theorem ml_X1_71 : Cond.methodLink RX1 71 yJ6_bitCount_0f7a4 ∈ wL := wL_of (tb_2 _ (List.mem_of_getElem? (i := 99) rfl)) rfl
theorem st_J6_bitCount_0f7a4 : Cond.static yJ6_bitCount_0f7a4 ∈ wL := wL_of (tb_2 _ (List.mem_of_getElem? (i := 100) rfl)) rfl
theorem co_J6_bitCount_0f7a4 : Cond.code yJ6_bitCount_0f7a4 cJ6_bitCount_0f7a4 1 (some .int) ∈ wL := wL_of (tb_2 _ (List.mem_of_getElem? (i := 101) rfl)) rfl
theorem ct_J6_265 : Cond.constant "java/lang/Integer" 265 (1431655765) ∈ wL := wL_of (tb_2 _ (List.mem_of_getElem? (i := 102) rfl)) rfl
theorem ct_J6_266 : Cond.constant "java/lang/Integer" 266 (858993459) ∈ wL := wL_of (tb_2 _ (List.mem_of_getElem? (i := 103) rfl)) rfl
theorem ct_J6_267 : Cond.constant "java/lang/Integer" 267 (252645135) ∈ wL := wL_of (tb_2 _ (List.mem_of_getElem? (i := 104) rfl)) rfl
theorem im_X1_countClashingPairs : Cond.instanceMethod yX1_countClashingPairs ∈ wL := wL_of (tb_2 _ (List.mem_of_getElem? (i := 107) rfl)) rfl
theorem co_X1_countClashingPairs : Cond.code yX1_countClashingPairs cX1_countClashingPairs 3 (some .int) ∈ wL := wL_of (tb_2 _ (List.mem_of_getElem? (i := 108) rfl)) rfl
theorem ml_X1_81 : Cond.methodLink RX1 81 yX1_clashesOf ∈ wL := wL_of (tb_2 _ (List.mem_of_getElem? (i := 109) rfl)) rfl
theorem im_X1_clashesOf : Cond.instanceMethod yX1_clashesOf ∈ wL := wL_of (tb_2 _ (List.mem_of_getElem? (i := 111) rfl)) rfl
theorem co_X1_clashesOf : Cond.code yX1_clashesOf cX1_clashesOf 4 (some .int) ∈ wL := wL_of (tb_2 _ (List.mem_of_getElem? (i := 112) rfl)) rfl
theorem im_X3_clashesWith : Cond.instanceMethod yX3_clashesWith ∈ wL := wL_of (tb_2 _ (List.mem_of_getElem? (i := 115) rfl)) rfl
theorem co_X3_clashesWith : Cond.code yX3_clashesWith cX3_clashesWith 3 (some .boolean) ∈ wL := wL_of (tb_2 _ (List.mem_of_getElem? (i := 116) rfl)) rfl
theorem ml_X3_31 : Cond.methodLink RX3 31 yX3_wordLength ∈ wL := wL_of (tb_2 _ (List.mem_of_getElem? (i := 117) rfl)) rfl
theorem im_X3_wordLength : Cond.instanceMethod yX3_wordLength ∈ wL := wL_of (tb_2 _ (List.mem_of_getElem? (i := 119) rfl)) rfl
theorem co_X3_wordLength : Cond.code yX3_wordLength cX3_wordLength 1 (some .int) ∈ wL := wL_of (tb_2 _ (List.mem_of_getElem? (i := 120) rfl)) rfl
theorem ct_X3_30 : Cond.constant RX3 30 (65535) ∈ wL := wL_of (tb_2 _ (List.mem_of_getElem? (i := 121) rfl)) rfl
theorem ml_X3_35 : Cond.methodLink RX3 35 yJ9_min_7cf53 ∈ wL := wL_of (tb_2 _ (List.mem_of_getElem? (i := 122) rfl)) rfl
theorem st_J9_min_7cf53 : Cond.static yJ9_min_7cf53 ∈ wL := wL_of (tb_2 _ (List.mem_of_getElem? (i := 123) rfl)) rfl
theorem co_J9_min_7cf53 : Cond.code yJ9_min_7cf53 cJ9_min_7cf53 2 (some .int) ∈ wL := wL_of (tb_2 _ (List.mem_of_getElem? (i := 124) rfl)) rfl
theorem im_X1_leastOccurrences : Cond.instanceMethod yX1_leastOccurrences ∈ wL := wL_of (tb_2 _ (List.mem_of_getElem? (i := 128) rfl)) rfl
theorem co_X1_leastOccurrences : Cond.code yX1_leastOccurrences cX1_leastOccurrences 3 (some .int) ∈ wL := wL_of (tb_2 _ (List.mem_of_getElem? (i := 129) rfl)) rfl
theorem im_X1_mostOccurrences : Cond.instanceMethod yX1_mostOccurrences ∈ wL := wL_of (tb_2 _ (List.mem_of_getElem? (i := 132) rfl)) rfl
theorem co_X1_mostOccurrences : Cond.code yX1_mostOccurrences cX1_mostOccurrences 3 (some .int) ∈ wL := wL_of (tb_2 _ (List.mem_of_getElem? (i := 133) rfl)) rfl
theorem ml_L_57 : Cond.methodLink RL 57 yX6_member ∈ wL := wL_of (tb_2 _ (List.mem_of_getElem? (i := 134) rfl)) rfl
theorem im_X6_member : Cond.instanceMethod yX6_member ∈ wL := wL_of (tb_2 _ (List.mem_of_getElem? (i := 135) rfl)) rfl
theorem se_X6_member : Cond.selects RX6 yX6_member yX6_member ∈ wL := wL_of (tb_2 _ (List.mem_of_getElem? (i := 136) rfl)) rfl
theorem co_X6_member : Cond.code yX6_member cX6_member 4 (some .int) ∈ wL := wL_of (tb_2 _ (List.mem_of_getElem? (i := 137) rfl)) rfl
theorem im_X3_letter : Cond.instanceMethod yX3_letter ∈ wL := wL_of (tb_2 _ (List.mem_of_getElem? (i := 141) rfl)) rfl
theorem co_X3_letter : Cond.code yX3_letter cX3_letter 3 (some .int) ∈ wL := wL_of (tb_2 _ (List.mem_of_getElem? (i := 142) rfl)) rfl
theorem ml_L_61 : Cond.methodLink RL 61 yX6_fault ∈ wL := wL_of (tb_2 _ (List.mem_of_getElem? (i := 145) rfl)) rfl
theorem im_X6_fault : Cond.instanceMethod yX6_fault ∈ wL := wL_of (tb_2 _ (List.mem_of_getElem? (i := 146) rfl)) rfl
theorem se_X6_fault : Cond.selects RX6 yX6_fault yX6_fault ∈ wL := wL_of (tb_2 _ (List.mem_of_getElem? (i := 147) rfl)) rfl
theorem co_X6_fault : Cond.code yX6_fault cX6_fault 1 (some .int) ∈ wL := wL_of (tb_2 _ (List.mem_of_getElem? (i := 148) rfl)) rfl
theorem im_X5_learn : Cond.instanceMethod yX5_learn ∈ wL := wL_of (tb_2 _ (List.mem_of_getElem? (i := 151) rfl)) rfl
theorem co_X5_learn : Cond.code yX5_learn cX5_learn 3 none ∈ wL := wL_of (tb_2 _ (List.mem_of_getElem? (i := 152) rfl)) rfl
theorem ml_X5_35 : Cond.methodLink RX5 35 yX5_findEnds ∈ wL := wL_of (tb_2 _ (List.mem_of_getElem? (i := 153) rfl)) rfl
theorem im_X5_findEnds : Cond.instanceMethod yX5_findEnds ∈ wL := wL_of (tb_2 _ (List.mem_of_getElem? (i := 155) rfl)) rfl
theorem co_X5_findEnds : Cond.code yX5_findEnds cX5_findEnds 5 none ∈ wL := wL_of (tb_2 _ (List.mem_of_getElem? (i := 156) rfl)) rfl
theorem im_X1_tallies : Cond.instanceMethod yX1_tallies ∈ wL := wL_of (tb_2 _ (List.mem_of_getElem? (i := 159) rfl)) rfl
theorem co_X1_tallies : Cond.code yX1_tallies cX1_tallies 1 (some .int) ∈ wL := wL_of (tb_2 _ (List.mem_of_getElem? (i := 160) rfl)) rfl
theorem ml_X5_59 : Cond.methodLink RX5 59 yX5_endOf ∈ wL := wL_of (tb_2 _ (List.mem_of_getElem? (i := 161) rfl)) rfl
theorem im_X5_endOf : Cond.instanceMethod yX5_endOf ∈ wL := wL_of (tb_2 _ (List.mem_of_getElem? (i := 163) rfl)) rfl
theorem co_X5_endOf : Cond.code yX5_endOf cX5_endOf 2 (some .int) ∈ wL := wL_of (tb_2 _ (List.mem_of_getElem? (i := 164) rfl)) rfl
theorem ml_X5_63 : Cond.methodLink RX5 63 yX5_findSteps ∈ wL := wL_of (tb_2 _ (List.mem_of_getElem? (i := 165) rfl)) rfl
theorem im_X5_findSteps : Cond.instanceMethod yX5_findSteps ∈ wL := wL_of (tb_2 _ (List.mem_of_getElem? (i := 167) rfl)) rfl
theorem co_X5_findSteps : Cond.code yX5_findSteps cX5_findSteps 10 (some .int) ∈ wL := wL_of (tb_2 _ (List.mem_of_getElem? (i := 168) rfl)) rfl
theorem ml_X5_67 : Cond.methodLink RX5 67 yX5_startBehind ∈ wL := wL_of (tb_2 _ (List.mem_of_getElem? (i := 169) rfl)) rfl
theorem im_X5_startBehind : Cond.instanceMethod yX5_startBehind ∈ wL := wL_of (tb_2 _ (List.mem_of_getElem? (i := 171) rfl)) rfl
theorem co_X5_startBehind : Cond.code yX5_startBehind cX5_startBehind 5 (some .int) ∈ wL := wL_of (tb_2 _ (List.mem_of_getElem? (i := 172) rfl)) rfl
theorem im_X1_followers : Cond.instanceMethod yX1_followers ∈ wL := wL_of (tb_2 _ (List.mem_of_getElem? (i := 176) rfl)) rfl
theorem co_X1_followers : Cond.code yX1_followers cX1_followers 5 (some .int) ∈ wL := wL_of (tb_2 _ (List.mem_of_getElem? (i := 177) rfl)) rfl
theorem ml_X1_87 : Cond.methodLink RX1 87 yX1_presentIn ∈ wL := wL_of (tb_2 _ (List.mem_of_getElem? (i := 178) rfl)) rfl
theorem im_X1_presentIn : Cond.instanceMethod yX1_presentIn ∈ wL := wL_of (tb_2 _ (List.mem_of_getElem? (i := 180) rfl)) rfl
theorem co_X1_presentIn : Cond.code yX1_presentIn cX1_presentIn 4 (some .int) ∈ wL := wL_of (tb_2 _ (List.mem_of_getElem? (i := 181) rfl)) rfl
theorem st_X6_timesIn : Cond.static yX6_timesIn ∈ wL := wL_of (tb_2 _ (List.mem_of_getElem? (i := 183) rfl)) rfl
theorem co_X6_timesIn : Cond.code yX6_timesIn cX6_timesIn 2 (some .int) ∈ wL := wL_of (tb_2 _ (List.mem_of_getElem? (i := 184) rfl)) rfl
theorem im_X0_endOf : Cond.instanceMethod yX0_endOf ∈ wL := wL_of (tb_2 _ (List.mem_of_getElem? (i := 189) rfl)) rfl
theorem co_X0_endOf : Cond.code yX0_endOf cX0_endOf 5 (some .int) ∈ wL := wL_of (tb_2 _ (List.mem_of_getElem? (i := 190) rfl)) rfl
theorem ml_X0_39 : Cond.methodLink RX0 39 yX0_lettersMatched ∈ wL := wL_of (tb_2 _ (List.mem_of_getElem? (i := 192) rfl)) rfl
theorem im_X0_lettersMatched : Cond.instanceMethod yX0_lettersMatched ∈ wL := wL_of (tb_2 _ (List.mem_of_getElem? (i := 194) rfl)) rfl
theorem co_X0_lettersMatched : Cond.code yX0_lettersMatched cX0_lettersMatched 4 (some .int) ∈ wL := wL_of (tb_2 _ (List.mem_of_getElem? (i := 195) rfl)) rfl
theorem ml_X0_46 : Cond.methodLink RX0 46 yX0_digitsFrom ∈ wL := wL_of (tb_2 _ (List.mem_of_getElem? (i := 197) rfl)) rfl
theorem im_X0_digitsFrom : Cond.instanceMethod yX0_digitsFrom ∈ wL := wL_of (tb_2 _ (List.mem_of_getElem? (i := 199) rfl)) rfl
theorem co_X0_digitsFrom : Cond.code yX0_digitsFrom cX0_digitsFrom 3 (some .int) ∈ wL := wL_of (tb_2 _ (List.mem_of_getElem? (i := 200) rfl)) rfl
theorem st_X6_isDigit : Cond.static yX6_isDigit ∈ wL := wL_of (tb_2 _ (List.mem_of_getElem? (i := 202) rfl)) rfl
theorem co_X6_isDigit : Cond.code yX6_isDigit cX6_isDigit 1 (some .boolean) ∈ wL := wL_of (tb_2 _ (List.mem_of_getElem? (i := 203) rfl)) rfl
theorem st_X6_isCapital : Cond.static yX6_isCapital ∈ wL := wL_of (tb_2 _ (List.mem_of_getElem? (i := 205) rfl)) rfl
theorem co_X6_isCapital : Cond.code yX6_isCapital cX6_isCapital 1 (some .boolean) ∈ wL := wL_of (tb_2 _ (List.mem_of_getElem? (i := 206) rfl)) rfl
theorem st_X6_withOneMore : Cond.static yX6_withOneMore ∈ wL := wL_of (tb_2 _ (List.mem_of_getElem? (i := 208) rfl)) rfl
theorem co_X6_withOneMore : Cond.code yX6_withOneMore cX6_withOneMore 2 (some .int) ∈ wL := wL_of (tb_2 _ (List.mem_of_getElem? (i := 209) rfl)) rfl
theorem ml_X5_39 : Cond.methodLink RX5 39 yX5_countWays ∈ wL := wL_of (tb_2 _ (List.mem_of_getElem? (i := 210) rfl)) rfl
theorem im_X5_countWays : Cond.instanceMethod yX5_countWays ∈ wL := wL_of (tb_2 _ (List.mem_of_getElem? (i := 212) rfl)) rfl
theorem co_X5_countWays : Cond.code yX5_countWays cX5_countWays 4 none ∈ wL := wL_of (tb_2 _ (List.mem_of_getElem? (i := 213) rfl)) rfl
theorem ml_X5_95 : Cond.methodLink RX5 95 yJ9_min_7cf53 ∈ wL := wL_of (tb_2 _ (List.mem_of_getElem? (i := 214) rfl)) rfl
theorem ml_X5_100 : Cond.methodLink RX5 100 yX5_countFrom ∈ wL := wL_of (tb_2 _ (List.mem_of_getElem? (i := 215) rfl)) rfl
theorem im_X5_countFrom : Cond.instanceMethod yX5_countFrom ∈ wL := wL_of (tb_2 _ (List.mem_of_getElem? (i := 217) rfl)) rfl
theorem co_X5_countFrom : Cond.code yX5_countFrom cX5_countFrom 7 (some .long) ∈ wL := wL_of (tb_2 _ (List.mem_of_getElem? (i := 218) rfl)) rfl
theorem im_X1_isEnough : Cond.instanceMethod yX1_isEnough ∈ wL := wL_of (tb_2 _ (List.mem_of_getElem? (i := 221) rfl)) rfl
theorem co_X1_isEnough : Cond.code yX1_isEnough cX1_isEnough 3 (some .boolean) ∈ wL := wL_of (tb_2 _ (List.mem_of_getElem? (i := 222) rfl)) rfl
theorem ml_X5_111 : Cond.methodLink RX5 111 yX5_stepsFrom ∈ wL := wL_of (tb_2 _ (List.mem_of_getElem? (i := 223) rfl)) rfl
theorem im_X5_stepsFrom : Cond.instanceMethod yX5_stepsFrom ∈ wL := wL_of (tb_2 _ (List.mem_of_getElem? (i := 225) rfl)) rfl
theorem co_X5_stepsFrom : Cond.code yX5_stepsFrom cX5_stepsFrom 2 (some .int) ∈ wL := wL_of (tb_2 _ (List.mem_of_getElem? (i := 226) rfl)) rfl
theorem ml_X5_45 : Cond.methodLink RX5 45 yX5_waysFrom ∈ wL := wL_of (tb_2 _ (List.mem_of_getElem? (i := 227) rfl)) rfl
theorem im_X5_waysFrom : Cond.instanceMethod yX5_waysFrom ∈ wL := wL_of (tb_2 _ (List.mem_of_getElem? (i := 229) rfl)) rfl
theorem co_X5_waysFrom : Cond.code yX5_waysFrom cX5_waysFrom 2 (some .long) ∈ wL := wL_of (tb_2 _ (List.mem_of_getElem? (i := 230) rfl)) rfl
theorem ml_X5_42 : Cond.methodLink RX5 42 yX5_listFirst ∈ wL := wL_of (tb_2 _ (List.mem_of_getElem? (i := 231) rfl)) rfl
theorem im_X5_listFirst : Cond.instanceMethod yX5_listFirst ∈ wL := wL_of (tb_2 _ (List.mem_of_getElem? (i := 233) rfl)) rfl
theorem co_X5_listFirst : Cond.code yX5_listFirst cX5_listFirst 7 none ∈ wL := wL_of (tb_2 _ (List.mem_of_getElem? (i := 234) rfl)) rfl
theorem ml_X5_114 : Cond.methodLink RX5 114 yX5_firstBehind ∈ wL := wL_of (tb_2 _ (List.mem_of_getElem? (i := 235) rfl)) rfl
theorem im_X5_firstBehind : Cond.instanceMethod yX5_firstBehind ∈ wL := wL_of (tb_2 _ (List.mem_of_getElem? (i := 237) rfl)) rfl
theorem co_X5_firstBehind : Cond.code yX5_firstBehind cX5_firstBehind 4 (some .int) ∈ wL := wL_of (tb_2 _ (List.mem_of_getElem? (i := 238) rfl)) rfl
theorem im_X0_numberIn : Cond.instanceMethod yX0_numberIn ∈ wL := wL_of (tb_3 _ (List.mem_of_getElem? (i := 1) rfl)) rfl
theorem co_X0_numberIn : Cond.code yX0_numberIn cX0_numberIn 7 (some .int) ∈ wL := wL_of (tb_3 _ (List.mem_of_getElem? (i := 2) rfl)) rfl
theorem im_X5_exists : Cond.instanceMethod yX5_exists ∈ wL := wL_of (tb_3 _ (List.mem_of_getElem? (i := 5) rfl)) rfl
theorem co_X5_exists : Cond.code yX5_exists cX5_exists 1 (some .boolean) ∈ wL := wL_of (tb_3 _ (List.mem_of_getElem? (i := 6) rfl)) rfl
theorem im_X5_farthest : Cond.instanceMethod yX5_farthest ∈ wL := wL_of (tb_3 _ (List.mem_of_getElem? (i := 9) rfl)) rfl
theorem co_X5_farthest : Cond.code yX5_farthest cX5_farthest 5 (some .int) ∈ wL := wL_of (tb_3 _ (List.mem_of_getElem? (i := 10) rfl)) rfl
theorem ml_X5_122 : Cond.methodLink RX5 122 yX5_farthestBehind ∈ wL := wL_of (tb_3 _ (List.mem_of_getElem? (i := 11) rfl)) rfl
theorem im_X5_farthestBehind : Cond.instanceMethod yX5_farthestBehind ∈ wL := wL_of (tb_3 _ (List.mem_of_getElem? (i := 13) rfl)) rfl
theorem co_X5_farthestBehind : Cond.code yX5_farthestBehind cX5_farthestBehind 8 (some .int) ∈ wL := wL_of (tb_3 _ (List.mem_of_getElem? (i := 14) rfl)) rfl
theorem ml_X5_125 : Cond.methodLink RX5 125 yJ9_max_7cf53 ∈ wL := wL_of (tb_3 _ (List.mem_of_getElem? (i := 16) rfl)) rfl
theorem st_J9_max_7cf53 : Cond.static yJ9_max_7cf53 ∈ wL := wL_of (tb_3 _ (List.mem_of_getElem? (i := 17) rfl)) rfl
theorem co_J9_max_7cf53 : Cond.code yJ9_max_7cf53 cJ9_max_7cf53 2 (some .int) ∈ wL := wL_of (tb_3 _ (List.mem_of_getElem? (i := 18) rfl)) rfl
theorem ml_L_65 : Cond.methodLink RL 65 yX6_readings ∈ wL := wL_of (tb_3 _ (List.mem_of_getElem? (i := 19) rfl)) rfl
theorem im_X6_readings : Cond.instanceMethod yX6_readings ∈ wL := wL_of (tb_3 _ (List.mem_of_getElem? (i := 20) rfl)) rfl
theorem se_X6_readings : Cond.selects RX6 yX6_readings yX6_readings ∈ wL := wL_of (tb_3 _ (List.mem_of_getElem? (i := 21) rfl)) rfl
theorem co_X6_readings : Cond.code yX6_readings cX6_readings 1 (some .int) ∈ wL := wL_of (tb_3 _ (List.mem_of_getElem? (i := 22) rfl)) rfl
theorem cl_X6_180 : Cond.constantLong RX6 180 (1000000) ∈ wL := wL_of (tb_3 _ (List.mem_of_getElem? (i := 24) rfl)) rfl
theorem ml_X6_182 : Cond.methodLink RX6 182 yJ9_min_f86c9 ∈ wL := wL_of (tb_3 _ (List.mem_of_getElem? (i := 25) rfl)) rfl
theorem st_J9_min_f86c9 : Cond.static yJ9_min_f86c9 ∈ wL := wL_of (tb_3 _ (List.mem_of_getElem? (i := 26) rfl)) rfl
theorem co_J9_min_f86c9 : Cond.code yJ9_min_f86c9 cJ9_min_f86c9 4 (some .long) ∈ wL := wL_of (tb_3 _ (List.mem_of_getElem? (i := 27) rfl)) rfl
theorem ml_L_69 : Cond.methodLink RL 69 yX6_occurrence ∈ wL := wL_of (tb_3 _ (List.mem_of_getElem? (i := 28) rfl)) rfl
theorem im_X6_occurrence : Cond.instanceMethod yX6_occurrence ∈ wL := wL_of (tb_3 _ (List.mem_of_getElem? (i := 29) rfl)) rfl
theorem se_X6_occurrence : Cond.selects RX6 yX6_occurrence yX6_occurrence ∈ wL := wL_of (tb_3 _ (List.mem_of_getElem? (i := 30) rfl)) rfl
theorem co_X6_occurrence : Cond.code yX6_occurrence cX6_occurrence 3 (some .int) ∈ wL := wL_of (tb_3 _ (List.mem_of_getElem? (i := 31) rfl)) rfl
theorem im_X5_memberAt : Cond.instanceMethod yX5_memberAt ∈ wL := wL_of (tb_3 _ (List.mem_of_getElem? (i := 34) rfl)) rfl
theorem co_X5_memberAt : Cond.code yX5_memberAt cX5_memberAt 2 (some .int) ∈ wL := wL_of (tb_3 _ (List.mem_of_getElem? (i := 35) rfl)) rfl
theorem im_X5_startAt : Cond.instanceMethod yX5_startAt ∈ wL := wL_of (tb_3 _ (List.mem_of_getElem? (i := 38) rfl)) rfl
theorem co_X5_startAt : Cond.code yX5_startAt cX5_startAt 2 (some .int) ∈ wL := wL_of (tb_3 _ (List.mem_of_getElem? (i := 39) rfl)) rfl
theorem im_X5_numberAt : Cond.instanceMethod yX5_numberAt ∈ wL := wL_of (tb_3 _ (List.mem_of_getElem? (i := 42) rfl)) rfl
theorem co_X5_numberAt : Cond.code yX5_numberAt cX5_numberAt 2 (some .int) ∈ wL := wL_of (tb_3 _ (List.mem_of_getElem? (i := 43) rfl)) rfl
theorem ml_L_73 : Cond.methodLink RL 73 yX6_value ∈ wL := wL_of (tb_3 _ (List.mem_of_getElem? (i := 44) rfl)) rfl
theorem im_X6_value : Cond.instanceMethod yX6_value ∈ wL := wL_of (tb_3 _ (List.mem_of_getElem? (i := 45) rfl)) rfl
theorem se_X6_value : Cond.selects RX6 yX6_value yX6_value ∈ wL := wL_of (tb_3 _ (List.mem_of_getElem? (i := 46) rfl)) rfl
theorem co_X6_value : Cond.code yX6_value cX6_value 5 (some .int) ∈ wL := wL_of (tb_3 _ (List.mem_of_getElem? (i := 47) rfl)) rfl
theorem ml_L_77 : Cond.methodLink RL 77 yX6_next ∈ wL := wL_of (tb_3 _ (List.mem_of_getElem? (i := 48) rfl)) rfl
theorem im_X6_next : Cond.instanceMethod yX6_next ∈ wL := wL_of (tb_3 _ (List.mem_of_getElem? (i := 49) rfl)) rfl
theorem se_X6_next : Cond.selects RX6 yX6_next yX6_next ∈ wL := wL_of (tb_3 _ (List.mem_of_getElem? (i := 50) rfl)) rfl
theorem co_X6_next : Cond.code yX6_next cX6_next 1 (some .int) ∈ wL := wL_of (tb_3 _ (List.mem_of_getElem? (i := 51) rfl)) rfl
theorem im_X5_membersGoingOn : Cond.instanceMethod yX5_membersGoingOn ∈ wL := wL_of (tb_3 _ (List.mem_of_getElem? (i := 54) rfl)) rfl
theorem co_X5_membersGoingOn : Cond.code yX5_membersGoingOn cX5_membersGoingOn 6 (some .int) ∈ wL := wL_of (tb_3 _ (List.mem_of_getElem? (i := 55) rfl)) rfl
theorem ml_L_81 : Cond.methodLink RL 81 yX6_normal ∈ wL := wL_of (tb_3 _ (List.mem_of_getElem? (i := 56) rfl)) rfl
theorem im_X6_normal : Cond.instanceMethod yX6_normal ∈ wL := wL_of (tb_3 _ (List.mem_of_getElem? (i := 57) rfl)) rfl
theorem se_X6_normal : Cond.selects RX6 yX6_normal yX6_normal ∈ wL := wL_of (tb_3 _ (List.mem_of_getElem? (i := 58) rfl)) rfl
theorem co_X6_normal : Cond.code yX6_normal cX6_normal 2 (some .int) ∈ wL := wL_of (tb_3 _ (List.mem_of_getElem? (i := 59) rfl)) rfl
theorem ml_X6_204 : Cond.methodLink RX6 204 yX6_formNormal ∈ wL := wL_of (tb_3 _ (List.mem_of_getElem? (i := 60) rfl)) rfl
theorem im_X6_formNormal : Cond.instanceMethod yX6_formNormal ∈ wL := wL_of (tb_3 _ (List.mem_of_getElem? (i := 62) rfl)) rfl
theorem co_X6_formNormal : Cond.code yX6_formNormal cX6_formNormal 3 none ∈ wL := wL_of (tb_3 _ (List.mem_of_getElem? (i := 63) rfl)) rfl
theorem im_X0_appendOccurrence : Cond.instanceMethod yX0_appendOccurrence ∈ wL := wL_of (tb_3 _ (List.mem_of_getElem? (i := 66) rfl)) rfl
theorem co_X0_appendOccurrence : Cond.code yX0_appendOccurrence cX0_appendOccurrence 4 none ∈ wL := wL_of (tb_3 _ (List.mem_of_getElem? (i := 67) rfl)) rfl
theorem ml_X0_52 : Cond.methodLink RX0 52 yX0_append ∈ wL := wL_of (tb_3 _ (List.mem_of_getElem? (i := 68) rfl)) rfl
theorem ml_X0_55 : Cond.methodLink RX0 55 yX0_appendNumber ∈ wL := wL_of (tb_3 _ (List.mem_of_getElem? (i := 69) rfl)) rfl
theorem im_X0_appendNumber : Cond.instanceMethod yX0_appendNumber ∈ wL := wL_of (tb_3 _ (List.mem_of_getElem? (i := 71) rfl)) rfl
theorem co_X0_appendNumber : Cond.code yX0_appendNumber cX0_appendNumber 2 none ∈ wL := wL_of (tb_3 _ (List.mem_of_getElem? (i := 72) rfl)) rfl
theorem ml_L_85 : Cond.methodLink RL 85 yX6_orders ∈ wL := wL_of (tb_3 _ (List.mem_of_getElem? (i := 74) rfl)) rfl
theorem im_X6_orders : Cond.instanceMethod yX6_orders ∈ wL := wL_of (tb_3 _ (List.mem_of_getElem? (i := 75) rfl)) rfl
theorem se_X6_orders : Cond.selects RX6 yX6_orders yX6_orders ∈ wL := wL_of (tb_3 _ (List.mem_of_getElem? (i := 76) rfl)) rfl
theorem co_X6_orders : Cond.code yX6_orders cX6_orders 2 (some .long) ∈ wL := wL_of (tb_3 _ (List.mem_of_getElem? (i := 77) rfl)) rfl
theorem cl_X6_213 : Cond.constantLong RX6 213 (-1) ∈ wL := wL_of (tb_3 _ (List.mem_of_getElem? (i := 78) rfl)) rfl
theorem im_X4_learn : Cond.instanceMethod yX4_learn ∈ wL := wL_of (tb_3 _ (List.mem_of_getElem? (i := 81) rfl)) rfl
theorem co_X4_learn : Cond.code yX4_learn cX4_learn 7 none ∈ wL := wL_of (tb_3 _ (List.mem_of_getElem? (i := 82) rfl)) rfl
theorem ml_X4_25 : Cond.methodLink RX4 25 yJ9_min_7cf53 ∈ wL := wL_of (tb_3 _ (List.mem_of_getElem? (i := 84) rfl)) rfl
theorem im_X1_lengthOf : Cond.instanceMethod yX1_lengthOf ∈ wL := wL_of (tb_3 _ (List.mem_of_getElem? (i := 87) rfl)) rfl
theorem co_X1_lengthOf : Cond.code yX1_lengthOf cX1_lengthOf 4 (some .int) ∈ wL := wL_of (tb_3 _ (List.mem_of_getElem? (i := 88) rfl)) rfl
theorem ml_X4_42 : Cond.methodLink RX4 42 yX4_countBehind ∈ wL := wL_of (tb_3 _ (List.mem_of_getElem? (i := 90) rfl)) rfl
theorem im_X4_countBehind : Cond.instanceMethod yX4_countBehind ∈ wL := wL_of (tb_3 _ (List.mem_of_getElem? (i := 92) rfl)) rfl
theorem co_X4_countBehind : Cond.code yX4_countBehind cX4_countBehind 8 (some .long) ∈ wL := wL_of (tb_3 _ (List.mem_of_getElem? (i := 93) rfl)) rfl
theorem ml_X4_55 : Cond.methodLink RX4 55 yX4_countFrom ∈ wL := wL_of (tb_3 _ (List.mem_of_getElem? (i := 97) rfl)) rfl
theorem im_X4_countFrom : Cond.instanceMethod yX4_countFrom ∈ wL := wL_of (tb_3 _ (List.mem_of_getElem? (i := 99) rfl)) rfl
theorem co_X4_countFrom : Cond.code yX4_countFrom cX4_countFrom 2 (some .long) ∈ wL := wL_of (tb_3 _ (List.mem_of_getElem? (i := 100) rfl)) rfl
theorem ml_L_92 : Cond.methodLink RL 92 yX6_order ∈ wL := wL_of (tb_3 _ (List.mem_of_getElem? (i := 102) rfl)) rfl
theorem im_X6_order : Cond.instanceMethod yX6_order ∈ wL := wL_of (tb_3 _ (List.mem_of_getElem? (i := 103) rfl)) rfl
theorem se_X6_order : Cond.selects RX6 yX6_order yX6_order ∈ wL := wL_of (tb_3 _ (List.mem_of_getElem? (i := 104) rfl)) rfl
theorem co_X6_order : Cond.code yX6_order cX6_order 4 (some .int) ∈ wL := wL_of (tb_3 _ (List.mem_of_getElem? (i := 105) rfl)) rfl
theorem im_X4_memberOf : Cond.instanceMethod yX4_memberOf ∈ wL := wL_of (tb_3 _ (List.mem_of_getElem? (i := 108) rfl)) rfl
theorem co_X4_memberOf : Cond.code yX4_memberOf cX4_memberOf 10 (some .int) ∈ wL := wL_of (tb_3 _ (List.mem_of_getElem? (i := 109) rfl)) rfl
theorem ml_X4_59 : Cond.methodLink RX4 59 yX4_memberBehind ∈ wL := wL_of (tb_3 _ (List.mem_of_getElem? (i := 110) rfl)) rfl
theorem im_X4_memberBehind : Cond.instanceMethod yX4_memberBehind ∈ wL := wL_of (tb_3 _ (List.mem_of_getElem? (i := 112) rfl)) rfl
theorem co_X4_memberBehind : Cond.code yX4_memberBehind cX4_memberBehind 6 (some .int) ∈ wL := wL_of (tb_3 _ (List.mem_of_getElem? (i := 113) rfl)) rfl
theorem ml_L_97 : Cond.methodLink RL 97 yX6_rank ∈ wL := wL_of (tb_3 _ (List.mem_of_getElem? (i := 114) rfl)) rfl
theorem im_X6_rank : Cond.instanceMethod yX6_rank ∈ wL := wL_of (tb_3 _ (List.mem_of_getElem? (i := 115) rfl)) rfl
theorem se_X6_rank : Cond.selects RX6 yX6_rank yX6_rank ∈ wL := wL_of (tb_3 _ (List.mem_of_getElem? (i := 116) rfl)) rfl
theorem co_X6_rank : Cond.code yX6_rank cX6_rank 1 (some .long) ∈ wL := wL_of (tb_3 _ (List.mem_of_getElem? (i := 117) rfl)) rfl
theorem cl_X6_225 : Cond.constantLong RX6 225 (-2) ∈ wL := wL_of (tb_3 _ (List.mem_of_getElem? (i := 118) rfl)) rfl
theorem im_X4_numberOf : Cond.instanceMethod yX4_numberOf ∈ wL := wL_of (tb_3 _ (List.mem_of_getElem? (i := 121) rfl)) rfl
theorem co_X4_numberOf : Cond.code yX4_numberOf cX4_numberOf 7 (some .long) ∈ wL := wL_of (tb_3 _ (List.mem_of_getElem? (i := 122) rfl)) rfl
theorem ml_L_102 : Cond.methodLink RL 102 yX6_keep ∈ wL := wL_of (tb_3 _ (List.mem_of_getElem? (i := 124) rfl)) rfl
theorem im_X6_keep : Cond.instanceMethod yX6_keep ∈ wL := wL_of (tb_3 _ (List.mem_of_getElem? (i := 125) rfl)) rfl
theorem se_X6_keep : Cond.selects RX6 yX6_keep yX6_keep ∈ wL := wL_of (tb_3 _ (List.mem_of_getElem? (i := 126) rfl)) rfl
theorem co_X6_keep : Cond.code yX6_keep cX6_keep 2 (some .int) ∈ wL := wL_of (tb_3 _ (List.mem_of_getElem? (i := 127) rfl)) rfl
theorem ml_X6_231 : Cond.methodLink RX6 231 yX6_isImage ∈ wL := wL_of (tb_3 _ (List.mem_of_getElem? (i := 128) rfl)) rfl
theorem im_X6_isImage : Cond.instanceMethod yX6_isImage ∈ wL := wL_of (tb_3 _ (List.mem_of_getElem? (i := 130) rfl)) rfl
theorem co_X6_isImage : Cond.code yX6_isImage cX6_isImage 2 (some .boolean) ∈ wL := wL_of (tb_3 _ (List.mem_of_getElem? (i := 131) rfl)) rfl
theorem ml_L_106 : Cond.methodLink RL 106 yX6_back ∈ wL := wL_of (tb_3 _ (List.mem_of_getElem? (i := 133) rfl)) rfl
theorem im_X6_back : Cond.instanceMethod yX6_back ∈ wL := wL_of (tb_3 _ (List.mem_of_getElem? (i := 134) rfl)) rfl
theorem se_X6_back : Cond.selects RX6 yX6_back yX6_back ∈ wL := wL_of (tb_3 _ (List.mem_of_getElem? (i := 135) rfl)) rfl
theorem co_X6_back : Cond.code yX6_back cX6_back 2 (some .int) ∈ wL := wL_of (tb_3 _ (List.mem_of_getElem? (i := 136) rfl)) rfl
theorem kl_L_10 : Cond.classLink RL 10 RX7 ∈ wL := wL_of (tb_3 _ (List.mem_of_getElem? (i := 137) rfl)) rfl
theorem ia_X7 : Cond.instantiable RX7 17 ∈ wL := wL_of (tb_3 _ (List.mem_of_getElem? (i := 138) rfl)) rfl
theorem ml_L_12 : Cond.methodLink RL 12 yX7_init ∈ wL := wL_of (tb_3 _ (List.mem_of_getElem? (i := 139) rfl)) rfl
theorem im_X7_init : Cond.instanceMethod yX7_init ∈ wL := wL_of (tb_3 _ (List.mem_of_getElem? (i := 140) rfl)) rfl
theorem co_X7_init : Cond.code yX7_init cX7_init 1 none ∈ wL := wL_of (tb_3 _ (List.mem_of_getElem? (i := 141) rfl)) rfl
theorem ml_X7_1 : Cond.methodLink RX7 1 ({ cls := "java/lang/Object", name := "<init>", desc := "()V" } : Jvm.MethodName) ∈ wL := wL_of (tb_3 _ (List.mem_of_getElem? (i := 142) rfl)) rfl
theorem ct_X7_25 : Cond.constant RX7 25 (249856) ∈ wL := wL_of (tb_3 _ (List.mem_of_getElem? (i := 143) rfl)) rfl
theorem fl_X7_7 : Cond.fieldLink RX7 7 "PhraseReaderModel" "w" "[I" ∈ wL := wL_of (tb_3 _ (List.mem_of_getElem? (i := 144) rfl)) rfl
theorem fl_X7_13 : Cond.fieldLink RX7 13 "PhraseReaderModel" "past" "[I" ∈ wL := wL_of (tb_3 _ (List.mem_of_getElem? (i := 145) rfl)) rfl
theorem fl_X7_52 : Cond.fieldLink RX7 52 "PhraseReaderModel" "pastMany" "I" ∈ wL := wL_of (tb_3 _ (List.mem_of_getElem? (i := 146) rfl)) rfl
theorem fl_X7_16 : Cond.fieldLink RX7 16 "PhraseReaderModel" "images" "[I" ∈ wL := wL_of (tb_3 _ (List.mem_of_getElem? (i := 147) rfl)) rfl
theorem fl_X7_191 : Cond.fieldLink RX7 191 "PhraseReaderModel" "filled" "I" ∈ wL := wL_of (tb_3 _ (List.mem_of_getElem? (i := 148) rfl)) rfl
theorem fl_X7_19 : Cond.fieldLink RX7 19 "PhraseReaderModel" "text" "[I" ∈ wL := wL_of (tb_3 _ (List.mem_of_getElem? (i := 149) rfl)) rfl
theorem fl_X7_64 : Cond.fieldLink RX7 64 "PhraseReaderModel" "length" "I" ∈ wL := wL_of (tb_3 _ (List.mem_of_getElem? (i := 150) rfl)) rfl
theorem fl_X7_22 : Cond.fieldLink RX7 22 "PhraseReaderModel" "from" "[I" ∈ wL := wL_of (tb_3 _ (List.mem_of_getElem? (i := 151) rfl)) rfl
theorem fl_X7_26 : Cond.fieldLink RX7 26 "PhraseReaderModel" "isReached" "[Z" ∈ wL := wL_of (tb_3 _ (List.mem_of_getElem? (i := 152) rfl)) rfl
theorem fl_X7_30 : Cond.fieldLink RX7 30 "PhraseReaderModel" "ways" "[I" ∈ wL := wL_of (tb_3 _ (List.mem_of_getElem? (i := 153) rfl)) rfl
theorem fl_X7_56 : Cond.fieldLink RX7 56 "PhraseReaderModel" "isLaid" "Z" ∈ wL := wL_of (tb_3 _ (List.mem_of_getElem? (i := 154) rfl)) rfl
theorem fl_X7_33 : Cond.fieldLink RX7 33 "PhraseReaderModel" "members" "[I" ∈ wL := wL_of (tb_3 _ (List.mem_of_getElem? (i := 155) rfl)) rfl
theorem fl_X7_36 : Cond.fieldLink RX7 36 "PhraseReaderModel" "places" "[I" ∈ wL := wL_of (tb_3 _ (List.mem_of_getElem? (i := 156) rfl)) rfl
theorem fl_X7_39 : Cond.fieldLink RX7 39 "PhraseReaderModel" "values" "[I" ∈ wL := wL_of (tb_3 _ (List.mem_of_getElem? (i := 157) rfl)) rfl
theorem fl_X7_42 : Cond.fieldLink RX7 42 "PhraseReaderModel" "form" "[I" ∈ wL := wL_of (tb_3 _ (List.mem_of_getElem? (i := 158) rfl)) rfl
theorem fl_X7_45 : Cond.fieldLink RX7 45 "PhraseReaderModel" "ahead" "[J" ∈ wL := wL_of (tb_3 _ (List.mem_of_getElem? (i := 159) rfl)) rfl
theorem fl_X7_49 : Cond.fieldLink RX7 49 "PhraseReaderModel" "behind" "[J" ∈ wL := wL_of (tb_3 _ (List.mem_of_getElem? (i := 160) rfl)) rfl
theorem la_X7_w : Cond.laysFinal "PhraseReaderModel" "PhraseReaderModel" "w" "[I" ∈ wL := wL_of (tb_3 _ (List.mem_of_getElem? (i := 161) rfl)) rfl
theorem la_X7_past : Cond.laysFinal "PhraseReaderModel" "PhraseReaderModel" "past" "[I" ∈ wL := wL_of (tb_3 _ (List.mem_of_getElem? (i := 163) rfl)) rfl
theorem la_X7_pastMany : Cond.lays "PhraseReaderModel" "PhraseReaderModel" "pastMany" "I" ∈ wL := wL_of (tb_3 _ (List.mem_of_getElem? (i := 165) rfl)) rfl
theorem la_X7_images : Cond.laysFinal "PhraseReaderModel" "PhraseReaderModel" "images" "[I" ∈ wL := wL_of (tb_3 _ (List.mem_of_getElem? (i := 167) rfl)) rfl
theorem la_X7_filled : Cond.lays "PhraseReaderModel" "PhraseReaderModel" "filled" "I" ∈ wL := wL_of (tb_3 _ (List.mem_of_getElem? (i := 169) rfl)) rfl
theorem la_X7_text : Cond.laysFinal "PhraseReaderModel" "PhraseReaderModel" "text" "[I" ∈ wL := wL_of (tb_3 _ (List.mem_of_getElem? (i := 171) rfl)) rfl
theorem la_X7_length : Cond.lays "PhraseReaderModel" "PhraseReaderModel" "length" "I" ∈ wL := wL_of (tb_3 _ (List.mem_of_getElem? (i := 173) rfl)) rfl
theorem la_X7_from : Cond.laysFinal "PhraseReaderModel" "PhraseReaderModel" "from" "[I" ∈ wL := wL_of (tb_3 _ (List.mem_of_getElem? (i := 175) rfl)) rfl
theorem la_X7_isReached : Cond.laysFinal "PhraseReaderModel" "PhraseReaderModel" "isReached" "[Z" ∈ wL := wL_of (tb_3 _ (List.mem_of_getElem? (i := 177) rfl)) rfl
theorem la_X7_ways : Cond.laysFinal "PhraseReaderModel" "PhraseReaderModel" "ways" "[I" ∈ wL := wL_of (tb_3 _ (List.mem_of_getElem? (i := 179) rfl)) rfl
theorem la_X7_isLaid : Cond.lays "PhraseReaderModel" "PhraseReaderModel" "isLaid" "Z" ∈ wL := wL_of (tb_3 _ (List.mem_of_getElem? (i := 181) rfl)) rfl
theorem la_X7_members : Cond.laysFinal "PhraseReaderModel" "PhraseReaderModel" "members" "[I" ∈ wL := wL_of (tb_3 _ (List.mem_of_getElem? (i := 183) rfl)) rfl
theorem la_X7_places : Cond.laysFinal "PhraseReaderModel" "PhraseReaderModel" "places" "[I" ∈ wL := wL_of (tb_3 _ (List.mem_of_getElem? (i := 185) rfl)) rfl
theorem la_X7_values : Cond.laysFinal "PhraseReaderModel" "PhraseReaderModel" "values" "[I" ∈ wL := wL_of (tb_3 _ (List.mem_of_getElem? (i := 187) rfl)) rfl
theorem la_X7_form : Cond.laysFinal "PhraseReaderModel" "PhraseReaderModel" "form" "[I" ∈ wL := wL_of (tb_3 _ (List.mem_of_getElem? (i := 189) rfl)) rfl
theorem la_X7_ahead : Cond.laysFinal "PhraseReaderModel" "PhraseReaderModel" "ahead" "[J" ∈ wL := wL_of (tb_3 _ (List.mem_of_getElem? (i := 191) rfl)) rfl
theorem la_X7_behind : Cond.laysFinal "PhraseReaderModel" "PhraseReaderModel" "behind" "[J" ∈ wL := wL_of (tb_3 _ (List.mem_of_getElem? (i := 193) rfl)) rfl
theorem ml_L_17 : Cond.methodLink RL 17 yX7_write ∈ wL := wL_of (tb_3 _ (List.mem_of_getElem? (i := 196) rfl)) rfl
theorem im_X7_write : Cond.instanceMethod yX7_write ∈ wL := wL_of (tb_3 _ (List.mem_of_getElem? (i := 197) rfl)) rfl
theorem se_X7_write : Cond.selects RX7 yX7_write yX7_write ∈ wL := wL_of (tb_3 _ (List.mem_of_getElem? (i := 198) rfl)) rfl
theorem co_X7_write : Cond.code yX7_write cX7_write 2 (some .int) ∈ wL := wL_of (tb_3 _ (List.mem_of_getElem? (i := 199) rfl)) rfl
theorem ml_X7_60 : Cond.methodLink RX7 60 yX7_isIn ∈ wL := wL_of (tb_3 _ (List.mem_of_getElem? (i := 200) rfl)) rfl
theorem st_X7_isIn : Cond.static yX7_isIn ∈ wL := wL_of (tb_3 _ (List.mem_of_getElem? (i := 201) rfl)) rfl
theorem co_X7_isIn : Cond.code yX7_isIn cX7_isIn 3 (some .boolean) ∈ wL := wL_of (tb_3 _ (List.mem_of_getElem? (i := 202) rfl)) rfl
theorem ml_L_22 : Cond.methodLink RL 22 yX7_wipe ∈ wL := wL_of (tb_3 _ (List.mem_of_getElem? (i := 203) rfl)) rfl
theorem im_X7_wipe : Cond.instanceMethod yX7_wipe ∈ wL := wL_of (tb_3 _ (List.mem_of_getElem? (i := 204) rfl)) rfl
theorem se_X7_wipe : Cond.selects RX7 yX7_wipe yX7_wipe ∈ wL := wL_of (tb_3 _ (List.mem_of_getElem? (i := 205) rfl)) rfl
theorem co_X7_wipe : Cond.code yX7_wipe cX7_wipe 2 (some .int) ∈ wL := wL_of (tb_3 _ (List.mem_of_getElem? (i := 206) rfl)) rfl
theorem ml_L_27 : Cond.methodLink RL 27 yX7_declare ∈ wL := wL_of (tb_3 _ (List.mem_of_getElem? (i := 207) rfl)) rfl
theorem im_X7_declare : Cond.instanceMethod yX7_declare ∈ wL := wL_of (tb_3 _ (List.mem_of_getElem? (i := 208) rfl)) rfl
theorem se_X7_declare : Cond.selects RX7 yX7_declare yX7_declare ∈ wL := wL_of (tb_3 _ (List.mem_of_getElem? (i := 209) rfl)) rfl
theorem co_X7_declare : Cond.code yX7_declare cX7_declare 6 (some .int) ∈ wL := wL_of (tb_3 _ (List.mem_of_getElem? (i := 210) rfl)) rfl
theorem ml_X7_83 : Cond.methodLink RX7 83 yX7_isNewWord ∈ wL := wL_of (tb_3 _ (List.mem_of_getElem? (i := 211) rfl)) rfl
theorem im_X7_isNewWord : Cond.instanceMethod yX7_isNewWord ∈ wL := wL_of (tb_3 _ (List.mem_of_getElem? (i := 213) rfl)) rfl
theorem co_X7_isNewWord : Cond.code yX7_isNewWord cX7_isNewWord 3 (some .boolean) ∈ wL := wL_of (tb_3 _ (List.mem_of_getElem? (i := 214) rfl)) rfl
theorem ml_X7_75 : Cond.methodLink RX7 75 yX7_isWord ∈ wL := wL_of (tb_3 _ (List.mem_of_getElem? (i := 215) rfl)) rfl
theorem im_X7_isWord : Cond.instanceMethod yX7_isWord ∈ wL := wL_of (tb_3 _ (List.mem_of_getElem? (i := 217) rfl)) rfl
theorem co_X7_isWord : Cond.code yX7_isWord cX7_isWord 3 (some .boolean) ∈ wL := wL_of (tb_3 _ (List.mem_of_getElem? (i := 218) rfl)) rfl
theorem ml_X7_79 : Cond.methodLink RX7 79 yX7_isWordOf ∈ wL := wL_of (tb_3 _ (List.mem_of_getElem? (i := 219) rfl)) rfl
theorem im_X7_isWordOf : Cond.instanceMethod yX7_isWordOf ∈ wL := wL_of (tb_3 _ (List.mem_of_getElem? (i := 221) rfl)) rfl
theorem co_X7_isWordOf : Cond.code yX7_isWordOf cX7_isWordOf 4 (some .boolean) ∈ wL := wL_of (tb_3 _ (List.mem_of_getElem? (i := 222) rfl)) rfl
theorem ml_X7_71 : Cond.methodLink RX7 71 yX7_wordLength ∈ wL := wL_of (tb_3 _ (List.mem_of_getElem? (i := 223) rfl)) rfl
theorem im_X7_wordLength : Cond.instanceMethod yX7_wordLength ∈ wL := wL_of (tb_3 _ (List.mem_of_getElem? (i := 225) rfl)) rfl
theorem co_X7_wordLength : Cond.code yX7_wordLength cX7_wordLength 3 (some .int) ∈ wL := wL_of (tb_3 _ (List.mem_of_getElem? (i := 226) rfl)) rfl
theorem ml_X7_67 : Cond.methodLink RX7 67 yX7_letter ∈ wL := wL_of (tb_3 _ (List.mem_of_getElem? (i := 227) rfl)) rfl
theorem im_X7_letter : Cond.instanceMethod yX7_letter ∈ wL := wL_of (tb_3 _ (List.mem_of_getElem? (i := 229) rfl)) rfl
theorem co_X7_letter : Cond.code yX7_letter cX7_letter 3 (some .int) ∈ wL := wL_of (tb_3 _ (List.mem_of_getElem? (i := 230) rfl)) rfl
theorem ml_X7_86 : Cond.methodLink RX7 86 yX7_remember ∈ wL := wL_of (tb_3 _ (List.mem_of_getElem? (i := 231) rfl)) rfl
theorem im_X7_remember : Cond.instanceMethod yX7_remember ∈ wL := wL_of (tb_3 _ (List.mem_of_getElem? (i := 233) rfl)) rfl
theorem co_X7_remember : Cond.code yX7_remember cX7_remember 2 none ∈ wL := wL_of (tb_3 _ (List.mem_of_getElem? (i := 234) rfl)) rfl
theorem ml_L_31 : Cond.methodLink RL 31 yX7_remove ∈ wL := wL_of (tb_3 _ (List.mem_of_getElem? (i := 235) rfl)) rfl
theorem im_X7_remove : Cond.instanceMethod yX7_remove ∈ wL := wL_of (tb_3 _ (List.mem_of_getElem? (i := 236) rfl)) rfl
theorem se_X7_remove : Cond.selects RX7 yX7_remove yX7_remove ∈ wL := wL_of (tb_3 _ (List.mem_of_getElem? (i := 237) rfl)) rfl
theorem co_X7_remove : Cond.code yX7_remove cX7_remove 4 (some .int) ∈ wL := wL_of (tb_3 _ (List.mem_of_getElem? (i := 238) rfl)) rfl
theorem ml_X7_99 : Cond.methodLink RX7 99 yX7_isMember ∈ wL := wL_of (tb_3 _ (List.mem_of_getElem? (i := 239) rfl)) rfl
theorem im_X7_isMember : Cond.instanceMethod yX7_isMember ∈ wL := wL_of (tb_4 _ (List.mem_of_getElem? (i := 1) rfl)) rfl
theorem co_X7_isMember : Cond.code yX7_isMember cX7_isMember 2 (some .boolean) ∈ wL := wL_of (tb_4 _ (List.mem_of_getElem? (i := 2) rfl)) rfl
theorem ml_X7_102 : Cond.methodLink RX7 102 yX7_arrange ∈ wL := wL_of (tb_4 _ (List.mem_of_getElem? (i := 3) rfl)) rfl
theorem im_X7_arrange : Cond.instanceMethod yX7_arrange ∈ wL := wL_of (tb_4 _ (List.mem_of_getElem? (i := 5) rfl)) rfl
theorem co_X7_arrange : Cond.code yX7_arrange cX7_arrange 5 none ∈ wL := wL_of (tb_4 _ (List.mem_of_getElem? (i := 6) rfl)) rfl
theorem ml_X7_93 : Cond.methodLink RX7 93 yX7_old ∈ wL := wL_of (tb_4 _ (List.mem_of_getElem? (i := 7) rfl)) rfl
theorem im_X7_old : Cond.instanceMethod yX7_old ∈ wL := wL_of (tb_4 _ (List.mem_of_getElem? (i := 9) rfl)) rfl
theorem co_X7_old : Cond.code yX7_old cX7_old 2 (some .int) ∈ wL := wL_of (tb_4 _ (List.mem_of_getElem? (i := 10) rfl)) rfl
theorem ml_X7_96 : Cond.methodLink RX7 96 yX7_renamed ∈ wL := wL_of (tb_4 _ (List.mem_of_getElem? (i := 11) rfl)) rfl
theorem im_X7_renamed : Cond.instanceMethod yX7_renamed ∈ wL := wL_of (tb_4 _ (List.mem_of_getElem? (i := 13) rfl)) rfl
theorem co_X7_renamed : Cond.code yX7_renamed cX7_renamed 5 (some .int) ∈ wL := wL_of (tb_4 _ (List.mem_of_getElem? (i := 14) rfl)) rfl
theorem ml_X7_89 : Cond.methodLink RX7 89 yX7_has ∈ wL := wL_of (tb_4 _ (List.mem_of_getElem? (i := 15) rfl)) rfl
theorem st_X7_has : Cond.static yX7_has ∈ wL := wL_of (tb_4 _ (List.mem_of_getElem? (i := 16) rfl)) rfl
theorem co_X7_has : Cond.code yX7_has cX7_has 2 (some .boolean) ∈ wL := wL_of (tb_4 _ (List.mem_of_getElem? (i := 17) rfl)) rfl
theorem ml_L_35 : Cond.methodLink RL 35 yX7_set ∈ wL := wL_of (tb_4 _ (List.mem_of_getElem? (i := 18) rfl)) rfl
theorem im_X7_set : Cond.instanceMethod yX7_set ∈ wL := wL_of (tb_4 _ (List.mem_of_getElem? (i := 19) rfl)) rfl
theorem se_X7_set : Cond.selects RX7 yX7_set yX7_set ∈ wL := wL_of (tb_4 _ (List.mem_of_getElem? (i := 20) rfl)) rfl
theorem co_X7_set : Cond.code yX7_set cX7_set 7 (some .int) ∈ wL := wL_of (tb_4 _ (List.mem_of_getElem? (i := 21) rfl)) rfl
theorem ml_L_40 : Cond.methodLink RL 40 yX7_move ∈ wL := wL_of (tb_4 _ (List.mem_of_getElem? (i := 22) rfl)) rfl
theorem im_X7_move : Cond.instanceMethod yX7_move ∈ wL := wL_of (tb_4 _ (List.mem_of_getElem? (i := 23) rfl)) rfl
theorem se_X7_move : Cond.selects RX7 yX7_move yX7_move ∈ wL := wL_of (tb_4 _ (List.mem_of_getElem? (i := 24) rfl)) rfl
theorem co_X7_move : Cond.code yX7_move cX7_move 5 (some .int) ∈ wL := wL_of (tb_4 _ (List.mem_of_getElem? (i := 25) rfl)) rfl
theorem ml_L_44 : Cond.methodLink RL 44 yX7_setSeparator ∈ wL := wL_of (tb_4 _ (List.mem_of_getElem? (i := 26) rfl)) rfl
theorem im_X7_setSeparator : Cond.instanceMethod yX7_setSeparator ∈ wL := wL_of (tb_4 _ (List.mem_of_getElem? (i := 27) rfl)) rfl
theorem se_X7_setSeparator : Cond.selects RX7 yX7_setSeparator yX7_setSeparator ∈ wL := wL_of (tb_4 _ (List.mem_of_getElem? (i := 28) rfl)) rfl
theorem co_X7_setSeparator : Cond.code yX7_setSeparator cX7_setSeparator 3 (some .int) ∈ wL := wL_of (tb_4 _ (List.mem_of_getElem? (i := 29) rfl)) rfl
theorem ml_L_48 : Cond.methodLink RL 48 yX7_rule ∈ wL := wL_of (tb_4 _ (List.mem_of_getElem? (i := 30) rfl)) rfl
theorem im_X7_rule : Cond.instanceMethod yX7_rule ∈ wL := wL_of (tb_4 _ (List.mem_of_getElem? (i := 31) rfl)) rfl
theorem se_X7_rule : Cond.selects RX7 yX7_rule yX7_rule ∈ wL := wL_of (tb_4 _ (List.mem_of_getElem? (i := 32) rfl)) rfl
theorem co_X7_rule : Cond.code yX7_rule cX7_rule 5 (some .int) ∈ wL := wL_of (tb_4 _ (List.mem_of_getElem? (i := 33) rfl)) rfl
theorem ml_L_52 : Cond.methodLink RL 52 yX7_undo ∈ wL := wL_of (tb_4 _ (List.mem_of_getElem? (i := 34) rfl)) rfl
theorem im_X7_undo : Cond.instanceMethod yX7_undo ∈ wL := wL_of (tb_4 _ (List.mem_of_getElem? (i := 35) rfl)) rfl
theorem se_X7_undo : Cond.selects RX7 yX7_undo yX7_undo ∈ wL := wL_of (tb_4 _ (List.mem_of_getElem? (i := 36) rfl)) rfl
theorem co_X7_undo : Cond.code yX7_undo cX7_undo 2 (some .int) ∈ wL := wL_of (tb_4 _ (List.mem_of_getElem? (i := 37) rfl)) rfl
theorem ml_L_56 : Cond.methodLink RL 56 yX7_told ∈ wL := wL_of (tb_4 _ (List.mem_of_getElem? (i := 38) rfl)) rfl
theorem im_X7_told : Cond.instanceMethod yX7_told ∈ wL := wL_of (tb_4 _ (List.mem_of_getElem? (i := 39) rfl)) rfl
theorem se_X7_told : Cond.selects RX7 yX7_told yX7_told ∈ wL := wL_of (tb_4 _ (List.mem_of_getElem? (i := 40) rfl)) rfl
theorem co_X7_told : Cond.code yX7_told cX7_told 2 (some .int) ∈ wL := wL_of (tb_4 _ (List.mem_of_getElem? (i := 41) rfl)) rfl
theorem ml_X7_115 : Cond.methodLink RX7 115 yX7_rules ∈ wL := wL_of (tb_4 _ (List.mem_of_getElem? (i := 42) rfl)) rfl
theorem im_X7_rules : Cond.instanceMethod yX7_rules ∈ wL := wL_of (tb_4 _ (List.mem_of_getElem? (i := 44) rfl)) rfl
theorem co_X7_rules : Cond.code yX7_rules cX7_rules 3 (some .int) ∈ wL := wL_of (tb_4 _ (List.mem_of_getElem? (i := 45) rfl)) rfl
theorem ml_X7_109 : Cond.methodLink RX7 109 yX7_size ∈ wL := wL_of (tb_4 _ (List.mem_of_getElem? (i := 46) rfl)) rfl
theorem st_X7_size : Cond.static yX7_size ∈ wL := wL_of (tb_4 _ (List.mem_of_getElem? (i := 47) rfl)) rfl
theorem co_X7_size : Cond.code yX7_size cX7_size 3 (some .int) ∈ wL := wL_of (tb_4 _ (List.mem_of_getElem? (i := 48) rfl)) rfl
theorem ml_X7_119 : Cond.methodLink RX7 119 yX7_clashes ∈ wL := wL_of (tb_4 _ (List.mem_of_getElem? (i := 49) rfl)) rfl
theorem im_X7_clashes : Cond.instanceMethod yX7_clashes ∈ wL := wL_of (tb_4 _ (List.mem_of_getElem? (i := 51) rfl)) rfl
theorem co_X7_clashes : Cond.code yX7_clashes cX7_clashes 3 (some .int) ∈ wL := wL_of (tb_4 _ (List.mem_of_getElem? (i := 52) rfl)) rfl
theorem ml_X7_112 : Cond.methodLink RX7 112 yX7_clashing ∈ wL := wL_of (tb_4 _ (List.mem_of_getElem? (i := 53) rfl)) rfl
theorem im_X7_clashing : Cond.instanceMethod yX7_clashing ∈ wL := wL_of (tb_4 _ (List.mem_of_getElem? (i := 55) rfl)) rfl
theorem co_X7_clashing : Cond.code yX7_clashing cX7_clashing 4 (some .int) ∈ wL := wL_of (tb_4 _ (List.mem_of_getElem? (i := 56) rfl)) rfl
theorem ml_X7_106 : Cond.methodLink RX7 106 yX7_begins ∈ wL := wL_of (tb_4 _ (List.mem_of_getElem? (i := 57) rfl)) rfl
theorem im_X7_begins : Cond.instanceMethod yX7_begins ∈ wL := wL_of (tb_4 _ (List.mem_of_getElem? (i := 59) rfl)) rfl
theorem co_X7_begins : Cond.code yX7_begins cX7_begins 5 (some .boolean) ∈ wL := wL_of (tb_4 _ (List.mem_of_getElem? (i := 60) rfl)) rfl
theorem ml_X7_122 : Cond.methodLink RX7 122 yX7_sumOf ∈ wL := wL_of (tb_4 _ (List.mem_of_getElem? (i := 61) rfl)) rfl
theorem im_X7_sumOf : Cond.instanceMethod yX7_sumOf ∈ wL := wL_of (tb_4 _ (List.mem_of_getElem? (i := 63) rfl)) rfl
theorem co_X7_sumOf : Cond.code yX7_sumOf cX7_sumOf 4 (some .int) ∈ wL := wL_of (tb_4 _ (List.mem_of_getElem? (i := 64) rfl)) rfl
theorem ml_L_60 : Cond.methodLink RL 60 yX7_member ∈ wL := wL_of (tb_4 _ (List.mem_of_getElem? (i := 65) rfl)) rfl
theorem im_X7_member : Cond.instanceMethod yX7_member ∈ wL := wL_of (tb_4 _ (List.mem_of_getElem? (i := 66) rfl)) rfl
theorem se_X7_member : Cond.selects RX7 yX7_member yX7_member ∈ wL := wL_of (tb_4 _ (List.mem_of_getElem? (i := 67) rfl)) rfl
theorem co_X7_member : Cond.code yX7_member cX7_member 3 (some .int) ∈ wL := wL_of (tb_4 _ (List.mem_of_getElem? (i := 68) rfl)) rfl
theorem ml_L_64 : Cond.methodLink RL 64 yX7_fault ∈ wL := wL_of (tb_4 _ (List.mem_of_getElem? (i := 69) rfl)) rfl
theorem im_X7_fault : Cond.instanceMethod yX7_fault ∈ wL := wL_of (tb_4 _ (List.mem_of_getElem? (i := 70) rfl)) rfl
theorem se_X7_fault : Cond.selects RX7 yX7_fault yX7_fault ∈ wL := wL_of (tb_4 _ (List.mem_of_getElem? (i := 71) rfl)) rfl
theorem co_X7_fault : Cond.code yX7_fault cX7_fault 5 (some .int) ∈ wL := wL_of (tb_4 _ (List.mem_of_getElem? (i := 72) rfl)) rfl
theorem ml_X7_156 : Cond.methodLink RX7 156 yX7_layWays ∈ wL := wL_of (tb_4 _ (List.mem_of_getElem? (i := 73) rfl)) rfl
theorem im_X7_layWays : Cond.instanceMethod yX7_layWays ∈ wL := wL_of (tb_4 _ (List.mem_of_getElem? (i := 75) rfl)) rfl
theorem co_X7_layWays : Cond.code yX7_layWays cX7_layWays 3 none ∈ wL := wL_of (tb_4 _ (List.mem_of_getElem? (i := 76) rfl)) rfl
theorem ml_X7_150 : Cond.methodLink RX7 150 yX7_layBeginnings ∈ wL := wL_of (tb_4 _ (List.mem_of_getElem? (i := 77) rfl)) rfl
theorem im_X7_layBeginnings : Cond.instanceMethod yX7_layBeginnings ∈ wL := wL_of (tb_4 _ (List.mem_of_getElem? (i := 79) rfl)) rfl
theorem co_X7_layBeginnings : Cond.code yX7_layBeginnings cX7_layBeginnings 6 none ∈ wL := wL_of (tb_4 _ (List.mem_of_getElem? (i := 80) rfl)) rfl
theorem ml_X7_137 : Cond.methodLink RX7 137 yX7_startOf ∈ wL := wL_of (tb_4 _ (List.mem_of_getElem? (i := 81) rfl)) rfl
theorem im_X7_startOf : Cond.instanceMethod yX7_startOf ∈ wL := wL_of (tb_4 _ (List.mem_of_getElem? (i := 83) rfl)) rfl
theorem co_X7_startOf : Cond.code yX7_startOf cX7_startOf 3 (some .int) ∈ wL := wL_of (tb_4 _ (List.mem_of_getElem? (i := 84) rfl)) rfl
theorem ml_X7_128 : Cond.methodLink RX7 128 yX7_may ∈ wL := wL_of (tb_4 _ (List.mem_of_getElem? (i := 85) rfl)) rfl
theorem im_X7_may : Cond.instanceMethod yX7_may ∈ wL := wL_of (tb_4 _ (List.mem_of_getElem? (i := 87) rfl)) rfl
theorem co_X7_may : Cond.code yX7_may cX7_may 4 (some .boolean) ∈ wL := wL_of (tb_4 _ (List.mem_of_getElem? (i := 88) rfl)) rfl
theorem ml_X7_125 : Cond.methodLink RX7 125 yX7_countIn ∈ wL := wL_of (tb_4 _ (List.mem_of_getElem? (i := 89) rfl)) rfl
theorem st_X7_countIn : Cond.static yX7_countIn ∈ wL := wL_of (tb_4 _ (List.mem_of_getElem? (i := 90) rfl)) rfl
theorem co_X7_countIn : Cond.code yX7_countIn cX7_countIn 2 (some .int) ∈ wL := wL_of (tb_4 _ (List.mem_of_getElem? (i := 91) rfl)) rfl
theorem ml_X7_140 : Cond.methodLink RX7 140 yX7_endOf ∈ wL := wL_of (tb_4 _ (List.mem_of_getElem? (i := 92) rfl)) rfl
theorem im_X7_endOf : Cond.instanceMethod yX7_endOf ∈ wL := wL_of (tb_4 _ (List.mem_of_getElem? (i := 94) rfl)) rfl
theorem co_X7_endOf : Cond.code yX7_endOf cX7_endOf 5 (some .int) ∈ wL := wL_of (tb_4 _ (List.mem_of_getElem? (i := 95) rfl)) rfl
theorem ml_X7_131 : Cond.methodLink RX7 131 yX7_matched ∈ wL := wL_of (tb_4 _ (List.mem_of_getElem? (i := 96) rfl)) rfl
theorem im_X7_matched : Cond.instanceMethod yX7_matched ∈ wL := wL_of (tb_4 _ (List.mem_of_getElem? (i := 98) rfl)) rfl
theorem co_X7_matched : Cond.code yX7_matched cX7_matched 4 (some .int) ∈ wL := wL_of (tb_4 _ (List.mem_of_getElem? (i := 99) rfl)) rfl
theorem ml_X7_134 : Cond.methodLink RX7 134 yX7_isDigitAt ∈ wL := wL_of (tb_4 _ (List.mem_of_getElem? (i := 100) rfl)) rfl
theorem im_X7_isDigitAt : Cond.instanceMethod yX7_isDigitAt ∈ wL := wL_of (tb_4 _ (List.mem_of_getElem? (i := 102) rfl)) rfl
theorem co_X7_isDigitAt : Cond.code yX7_isDigitAt cX7_isDigitAt 2 (some .boolean) ∈ wL := wL_of (tb_4 _ (List.mem_of_getElem? (i := 103) rfl)) rfl
theorem ml_X7_143 : Cond.methodLink RX7 143 yX7_with ∈ wL := wL_of (tb_4 _ (List.mem_of_getElem? (i := 104) rfl)) rfl
theorem st_X7_with : Cond.static yX7_with ∈ wL := wL_of (tb_4 _ (List.mem_of_getElem? (i := 105) rfl)) rfl
theorem co_X7_with : Cond.code yX7_with cX7_with 2 (some .int) ∈ wL := wL_of (tb_4 _ (List.mem_of_getElem? (i := 106) rfl)) rfl
theorem ml_X7_153 : Cond.methodLink RX7 153 yX7_waysFrom ∈ wL := wL_of (tb_4 _ (List.mem_of_getElem? (i := 107) rfl)) rfl
theorem im_X7_waysFrom : Cond.instanceMethod yX7_waysFrom ∈ wL := wL_of (tb_4 _ (List.mem_of_getElem? (i := 109) rfl)) rfl
theorem co_X7_waysFrom : Cond.code yX7_waysFrom cX7_waysFrom 7 (some .int) ∈ wL := wL_of (tb_4 _ (List.mem_of_getElem? (i := 110) rfl)) rfl
theorem ml_X7_146 : Cond.methodLink RX7 146 yX7_isWhole ∈ wL := wL_of (tb_4 _ (List.mem_of_getElem? (i := 111) rfl)) rfl
theorem im_X7_isWhole : Cond.instanceMethod yX7_isWhole ∈ wL := wL_of (tb_4 _ (List.mem_of_getElem? (i := 113) rfl)) rfl
theorem co_X7_isWhole : Cond.code yX7_isWhole cX7_isWhole 3 (some .boolean) ∈ wL := wL_of (tb_4 _ (List.mem_of_getElem? (i := 114) rfl)) rfl
theorem ct_X7_149 : Cond.constant RX7 149 (1000000) ∈ wL := wL_of (tb_4 _ (List.mem_of_getElem? (i := 115) rfl)) rfl
theorem ml_X7_159 : Cond.methodLink RX7 159 yX7_furthest ∈ wL := wL_of (tb_4 _ (List.mem_of_getElem? (i := 116) rfl)) rfl
theorem im_X7_furthest : Cond.instanceMethod yX7_furthest ∈ wL := wL_of (tb_4 _ (List.mem_of_getElem? (i := 118) rfl)) rfl
theorem co_X7_furthest : Cond.code yX7_furthest cX7_furthest 7 (some .int) ∈ wL := wL_of (tb_4 _ (List.mem_of_getElem? (i := 119) rfl)) rfl
theorem ml_L_68 : Cond.methodLink RL 68 yX7_readings ∈ wL := wL_of (tb_4 _ (List.mem_of_getElem? (i := 120) rfl)) rfl
theorem im_X7_readings : Cond.instanceMethod yX7_readings ∈ wL := wL_of (tb_4 _ (List.mem_of_getElem? (i := 121) rfl)) rfl
theorem se_X7_readings : Cond.selects RX7 yX7_readings yX7_readings ∈ wL := wL_of (tb_4 _ (List.mem_of_getElem? (i := 122) rfl)) rfl
theorem co_X7_readings : Cond.code yX7_readings cX7_readings 1 (some .int) ∈ wL := wL_of (tb_4 _ (List.mem_of_getElem? (i := 123) rfl)) rfl
theorem ml_L_72 : Cond.methodLink RL 72 yX7_occurrence ∈ wL := wL_of (tb_4 _ (List.mem_of_getElem? (i := 124) rfl)) rfl
theorem im_X7_occurrence : Cond.instanceMethod yX7_occurrence ∈ wL := wL_of (tb_4 _ (List.mem_of_getElem? (i := 125) rfl)) rfl
theorem se_X7_occurrence : Cond.selects RX7 yX7_occurrence yX7_occurrence ∈ wL := wL_of (tb_4 _ (List.mem_of_getElem? (i := 126) rfl)) rfl
theorem co_X7_occurrence : Cond.code yX7_occurrence cX7_occurrence 4 (some .int) ∈ wL := wL_of (tb_4 _ (List.mem_of_getElem? (i := 127) rfl)) rfl
theorem ml_X7_165 : Cond.methodLink RX7 165 yX7_layReading ∈ wL := wL_of (tb_4 _ (List.mem_of_getElem? (i := 128) rfl)) rfl
theorem im_X7_layReading : Cond.instanceMethod yX7_layReading ∈ wL := wL_of (tb_4 _ (List.mem_of_getElem? (i := 130) rfl)) rfl
theorem co_X7_layReading : Cond.code yX7_layReading cX7_layReading 6 (some .int) ∈ wL := wL_of (tb_4 _ (List.mem_of_getElem? (i := 131) rfl)) rfl
theorem ml_X7_162 : Cond.methodLink RX7 162 yX7_valueAt ∈ wL := wL_of (tb_4 _ (List.mem_of_getElem? (i := 132) rfl)) rfl
theorem im_X7_valueAt : Cond.instanceMethod yX7_valueAt ∈ wL := wL_of (tb_4 _ (List.mem_of_getElem? (i := 134) rfl)) rfl
theorem co_X7_valueAt : Cond.code yX7_valueAt cX7_valueAt 6 (some .int) ∈ wL := wL_of (tb_4 _ (List.mem_of_getElem? (i := 135) rfl)) rfl
theorem ml_L_76 : Cond.methodLink RL 76 yX7_value ∈ wL := wL_of (tb_4 _ (List.mem_of_getElem? (i := 136) rfl)) rfl
theorem im_X7_value : Cond.instanceMethod yX7_value ∈ wL := wL_of (tb_4 _ (List.mem_of_getElem? (i := 137) rfl)) rfl
theorem se_X7_value : Cond.selects RX7 yX7_value yX7_value ∈ wL := wL_of (tb_4 _ (List.mem_of_getElem? (i := 138) rfl)) rfl
theorem co_X7_value : Cond.code yX7_value cX7_value 6 (some .int) ∈ wL := wL_of (tb_4 _ (List.mem_of_getElem? (i := 139) rfl)) rfl
theorem ml_L_80 : Cond.methodLink RL 80 yX7_next ∈ wL := wL_of (tb_4 _ (List.mem_of_getElem? (i := 140) rfl)) rfl
theorem im_X7_next : Cond.instanceMethod yX7_next ∈ wL := wL_of (tb_4 _ (List.mem_of_getElem? (i := 141) rfl)) rfl
theorem se_X7_next : Cond.selects RX7 yX7_next yX7_next ∈ wL := wL_of (tb_4 _ (List.mem_of_getElem? (i := 142) rfl)) rfl
theorem co_X7_next : Cond.code yX7_next cX7_next 4 (some .int) ∈ wL := wL_of (tb_4 _ (List.mem_of_getElem? (i := 143) rfl)) rfl
theorem ml_X7_168 : Cond.methodLink RX7 168 yX7_mayFollow ∈ wL := wL_of (tb_4 _ (List.mem_of_getElem? (i := 144) rfl)) rfl
theorem im_X7_mayFollow : Cond.instanceMethod yX7_mayFollow ∈ wL := wL_of (tb_4 _ (List.mem_of_getElem? (i := 146) rfl)) rfl
theorem co_X7_mayFollow : Cond.code yX7_mayFollow cX7_mayFollow 4 (some .int) ∈ wL := wL_of (tb_4 _ (List.mem_of_getElem? (i := 147) rfl)) rfl
theorem ml_L_84 : Cond.methodLink RL 84 yX7_normal ∈ wL := wL_of (tb_4 _ (List.mem_of_getElem? (i := 148) rfl)) rfl
theorem im_X7_normal : Cond.instanceMethod yX7_normal ∈ wL := wL_of (tb_4 _ (List.mem_of_getElem? (i := 149) rfl)) rfl
theorem se_X7_normal : Cond.selects RX7 yX7_normal yX7_normal ∈ wL := wL_of (tb_4 _ (List.mem_of_getElem? (i := 150) rfl)) rfl
theorem co_X7_normal : Cond.code yX7_normal cX7_normal 3 (some .int) ∈ wL := wL_of (tb_4 _ (List.mem_of_getElem? (i := 151) rfl)) rfl
theorem ml_X7_175 : Cond.methodLink RX7 175 yX7_layForm ∈ wL := wL_of (tb_4 _ (List.mem_of_getElem? (i := 152) rfl)) rfl
theorem im_X7_layForm : Cond.instanceMethod yX7_layForm ∈ wL := wL_of (tb_4 _ (List.mem_of_getElem? (i := 154) rfl)) rfl
theorem co_X7_layForm : Cond.code yX7_layForm cX7_layForm 6 (some .int) ∈ wL := wL_of (tb_4 _ (List.mem_of_getElem? (i := 155) rfl)) rfl
theorem ml_X7_171 : Cond.methodLink RX7 171 yX7_layValue ∈ wL := wL_of (tb_4 _ (List.mem_of_getElem? (i := 156) rfl)) rfl
theorem im_X7_layValue : Cond.instanceMethod yX7_layValue ∈ wL := wL_of (tb_4 _ (List.mem_of_getElem? (i := 158) rfl)) rfl
theorem co_X7_layValue : Cond.code yX7_layValue cX7_layValue 5 (some .int) ∈ wL := wL_of (tb_4 _ (List.mem_of_getElem? (i := 159) rfl)) rfl
theorem ml_L_89 : Cond.methodLink RL 89 yX7_orders ∈ wL := wL_of (tb_4 _ (List.mem_of_getElem? (i := 160) rfl)) rfl
theorem im_X7_orders : Cond.instanceMethod yX7_orders ∈ wL := wL_of (tb_4 _ (List.mem_of_getElem? (i := 161) rfl)) rfl
theorem se_X7_orders : Cond.selects RX7 yX7_orders yX7_orders ∈ wL := wL_of (tb_4 _ (List.mem_of_getElem? (i := 162) rfl)) rfl
theorem co_X7_orders : Cond.code yX7_orders cX7_orders 5 (some .long) ∈ wL := wL_of (tb_4 _ (List.mem_of_getElem? (i := 163) rfl)) rfl
theorem cl_X7_181 : Cond.constantLong RX7 181 (-1) ∈ wL := wL_of (tb_4 _ (List.mem_of_getElem? (i := 164) rfl)) rfl
theorem ml_X7_183 : Cond.methodLink RX7 183 yX7_layOrders ∈ wL := wL_of (tb_4 _ (List.mem_of_getElem? (i := 165) rfl)) rfl
theorem im_X7_layOrders : Cond.instanceMethod yX7_layOrders ∈ wL := wL_of (tb_4 _ (List.mem_of_getElem? (i := 167) rfl)) rfl
theorem co_X7_layOrders : Cond.code yX7_layOrders cX7_layOrders 3 none ∈ wL := wL_of (tb_4 _ (List.mem_of_getElem? (i := 168) rfl)) rfl
theorem ml_X7_178 : Cond.methodLink RX7 178 yX7_isState ∈ wL := wL_of (tb_4 _ (List.mem_of_getElem? (i := 169) rfl)) rfl
theorem im_X7_isState : Cond.instanceMethod yX7_isState ∈ wL := wL_of (tb_4 _ (List.mem_of_getElem? (i := 171) rfl)) rfl
theorem co_X7_isState : Cond.code yX7_isState cX7_isState 3 (some .boolean) ∈ wL := wL_of (tb_4 _ (List.mem_of_getElem? (i := 172) rfl)) rfl
theorem ml_X7_186 : Cond.methodLink RX7 186 yX7_sizeOf ∈ wL := wL_of (tb_4 _ (List.mem_of_getElem? (i := 173) rfl)) rfl
theorem st_X7_sizeOf : Cond.static yX7_sizeOf ∈ wL := wL_of (tb_4 _ (List.mem_of_getElem? (i := 174) rfl)) rfl
theorem co_X7_sizeOf : Cond.code yX7_sizeOf cX7_sizeOf 3 (some .int) ∈ wL := wL_of (tb_4 _ (List.mem_of_getElem? (i := 175) rfl)) rfl
theorem ml_L_96 : Cond.methodLink RL 96 yX7_order ∈ wL := wL_of (tb_4 _ (List.mem_of_getElem? (i := 176) rfl)) rfl
theorem im_X7_order : Cond.instanceMethod yX7_order ∈ wL := wL_of (tb_4 _ (List.mem_of_getElem? (i := 177) rfl)) rfl
theorem se_X7_order : Cond.selects RX7 yX7_order yX7_order ∈ wL := wL_of (tb_4 _ (List.mem_of_getElem? (i := 178) rfl)) rfl
theorem co_X7_order : Cond.code yX7_order cX7_order 9 (some .int) ∈ wL := wL_of (tb_4 _ (List.mem_of_getElem? (i := 179) rfl)) rfl
theorem ml_L_101 : Cond.methodLink RL 101 yX7_rank ∈ wL := wL_of (tb_4 _ (List.mem_of_getElem? (i := 180) rfl)) rfl
theorem im_X7_rank : Cond.instanceMethod yX7_rank ∈ wL := wL_of (tb_4 _ (List.mem_of_getElem? (i := 181) rfl)) rfl
theorem se_X7_rank : Cond.selects RX7 yX7_rank yX7_rank ∈ wL := wL_of (tb_4 _ (List.mem_of_getElem? (i := 182) rfl)) rfl
theorem co_X7_rank : Cond.code yX7_rank cX7_rank 7 (some .long) ∈ wL := wL_of (tb_4 _ (List.mem_of_getElem? (i := 183) rfl)) rfl
theorem cl_X7_189 : Cond.constantLong RX7 189 (-2) ∈ wL := wL_of (tb_4 _ (List.mem_of_getElem? (i := 184) rfl)) rfl
theorem ml_L_105 : Cond.methodLink RL 105 yX7_keep ∈ wL := wL_of (tb_4 _ (List.mem_of_getElem? (i := 185) rfl)) rfl
theorem im_X7_keep : Cond.instanceMethod yX7_keep ∈ wL := wL_of (tb_4 _ (List.mem_of_getElem? (i := 186) rfl)) rfl
theorem se_X7_keep : Cond.selects RX7 yX7_keep yX7_keep ∈ wL := wL_of (tb_4 _ (List.mem_of_getElem? (i := 187) rfl)) rfl
theorem co_X7_keep : Cond.code yX7_keep cX7_keep 3 (some .int) ∈ wL := wL_of (tb_4 _ (List.mem_of_getElem? (i := 188) rfl)) rfl
theorem ml_L_109 : Cond.methodLink RL 109 yX7_back ∈ wL := wL_of (tb_4 _ (List.mem_of_getElem? (i := 189) rfl)) rfl
theorem im_X7_back : Cond.instanceMethod yX7_back ∈ wL := wL_of (tb_4 _ (List.mem_of_getElem? (i := 190) rfl)) rfl
theorem se_X7_back : Cond.selects RX7 yX7_back yX7_back ∈ wL := wL_of (tb_4 _ (List.mem_of_getElem? (i := 191) rfl)) rfl
theorem co_X7_back : Cond.code yX7_back cX7_back 3 (some .int) ∈ wL := wL_of (tb_4 _ (List.mem_of_getElem? (i := 192) rfl)) rfl
theorem cl_L_90 : Cond.constantLong RL 90 (4294967295) ∈ wL := wL_of (tb_4 _ (List.mem_of_getElem? (i := 193) rfl)) rfl
theorem pv_in : ∀ q ∈ lw_privs, Cond.selects q.1.cls q.1 q.1 ∈ lw_tbl := fun q h => List.mem_append_left _ (List.mem_map_of_mem h)
theorem pv_1 : ∀ q ∈ lw_privs_1, q ∈ lw_privs := fun _ h => List.mem_append_left _ h
theorem pv_2 : ∀ q ∈ lw_privs_2, q ∈ lw_privs := fun _ h => List.mem_append_right _ (List.mem_append_left _ h)
theorem pv_3 : ∀ q ∈ lw_privs_3, q ∈ lw_privs := fun _ h => List.mem_append_right _ (List.mem_append_right _ (List.mem_append_left _ h))
theorem pv_4 : ∀ q ∈ lw_privs_4, q ∈ lw_privs := fun _ h => List.mem_append_right _ (List.mem_append_right _ (List.mem_append_right _ (List.mem_append_left _ h)))
theorem pv_5 : ∀ q ∈ lw_privs_5, q ∈ lw_privs := fun _ h => List.mem_append_right _ (List.mem_append_right _ (List.mem_append_right _ (List.mem_append_right _ (List.mem_append_left _ h))))
theorem pv_6 : ∀ q ∈ lw_privs_6, q ∈ lw_privs := fun _ h => List.mem_append_right _ (List.mem_append_right _ (List.mem_append_right _ (List.mem_append_right _ (List.mem_append_right _ (List.mem_append_left _ h)))))
theorem pv_7 : ∀ q ∈ lw_privs_7, q ∈ lw_privs := fun _ h => List.mem_append_right _ (List.mem_append_right _ (List.mem_append_right _ (List.mem_append_right _ (List.mem_append_right _ (List.mem_append_right _ (h))))))
theorem se_X0_append : Cond.selects RX0 yX0_append yX0_append ∈ wL := wL_of (pv_in (yX0_append, 2) (pv_1 _ (List.mem_of_getElem? (i := 0) rfl))) rfl
theorem se_X5_forget : Cond.selects RX5 yX5_forget yX5_forget ∈ wL := wL_of (pv_in (yX5_forget, 8) (pv_1 _ (List.mem_of_getElem? (i := 1) rfl))) rfl
theorem se_X0_clear : Cond.selects RX0 yX0_clear yX0_clear ∈ wL := wL_of (pv_in (yX0_clear, 2) (pv_1 _ (List.mem_of_getElem? (i := 2) rfl))) rfl
theorem se_X0_asWord : Cond.selects RX0 yX0_asWord yX0_asWord ∈ wL := wL_of (pv_in (yX0_asWord, 2) (pv_1 _ (List.mem_of_getElem? (i := 3) rfl))) rfl
theorem se_X0_at : Cond.selects RX0 yX0_at yX0_at ∈ wL := wL_of (pv_in (yX0_at, 2) (pv_1 _ (List.mem_of_getElem? (i := 4) rfl))) rfl
theorem se_X1_hasWord : Cond.selects RX1 yX1_hasWord yX1_hasWord ∈ wL := wL_of (pv_in (yX1_hasWord, 4) (pv_1 _ (List.mem_of_getElem? (i := 5) rfl))) rfl
theorem se_X1_at : Cond.selects RX1 yX1_at yX1_at ∈ wL := wL_of (pv_in (yX1_at, 4) (pv_1 _ (List.mem_of_getElem? (i := 6) rfl))) rfl
theorem se_X6_beginChange : Cond.selects RX6 yX6_beginChange yX6_beginChange ∈ wL := wL_of (pv_in (yX6_beginChange, 8) (pv_1 _ (List.mem_of_getElem? (i := 7) rfl))) rfl
theorem se_X2_record : Cond.selects RX2 yX2_record yX2_record ∈ wL := wL_of (pv_in (yX2_record, 2) (pv_1 _ (List.mem_of_getElem? (i := 8) rfl))) rfl
theorem se_X2_dropOldest : Cond.selects RX2 yX2_dropOldest yX2_dropOldest ∈ wL := wL_of (pv_in (yX2_dropOldest, 2) (pv_1 _ (List.mem_of_getElem? (i := 9) rfl))) rfl
theorem se_X1_copyFrom : Cond.selects RX1 yX1_copyFrom yX1_copyFrom ∈ wL := wL_of (pv_in (yX1_copyFrom, 4) (pv_1 _ (List.mem_of_getElem? (i := 10) rfl))) rfl
theorem se_X3_copyFrom : Cond.selects RX3 yX3_copyFrom yX3_copyFrom ∈ wL := wL_of (pv_in (yX3_copyFrom, 6) (pv_1 _ (List.mem_of_getElem? (i := 11) rfl))) rfl
theorem se_X6_forgetTables : Cond.selects RX6 yX6_forgetTables yX6_forgetTables ∈ wL := wL_of (pv_in (yX6_forgetTables, 8) (pv_1 _ (List.mem_of_getElem? (i := 12) rfl))) rfl
theorem se_X4_forget : Cond.selects RX4 yX4_forget yX4_forget ∈ wL := wL_of (pv_in (yX4_forget, 2) (pv_1 _ (List.mem_of_getElem? (i := 13) rfl))) rfl
theorem se_X1_add : Cond.selects RX1 yX1_add yX1_add ∈ wL := wL_of (pv_in (yX1_add, 4) (pv_1 _ (List.mem_of_getElem? (i := 14) rfl))) rfl
theorem se_X1_has : Cond.selects RX1 yX1_has yX1_has ∈ wL := wL_of (pv_in (yX1_has, 4) (pv_1 _ (List.mem_of_getElem? (i := 15) rfl))) rfl
theorem se_X1_takeOut : Cond.selects RX1 yX1_takeOut yX1_takeOut ∈ wL := wL_of (pv_in (yX1_takeOut, 4) (pv_2 _ (List.mem_of_getElem? (i := 0) rfl))) rfl
theorem se_X1_reseat : Cond.selects RX1 yX1_reseat yX1_reseat ∈ wL := wL_of (pv_in (yX1_reseat, 4) (pv_2 _ (List.mem_of_getElem? (i := 1) rfl))) rfl
theorem se_X3_accepts : Cond.selects RX3 yX3_accepts yX3_accepts ∈ wL := wL_of (pv_in (yX3_accepts, 6) (pv_2 _ (List.mem_of_getElem? (i := 2) rfl))) rfl
theorem se_X3_exchange : Cond.selects RX3 yX3_exchange yX3_exchange ∈ wL := wL_of (pv_in (yX3_exchange, 6) (pv_2 _ (List.mem_of_getElem? (i := 3) rfl))) rfl
theorem se_X3_property : Cond.selects RX3 yX3_property yX3_property ∈ wL := wL_of (pv_in (yX3_property, 6) (pv_2 _ (List.mem_of_getElem? (i := 4) rfl))) rfl
theorem se_X2_restore : Cond.selects RX2 yX2_restore yX2_restore ∈ wL := wL_of (pv_in (yX2_restore, 2) (pv_2 _ (List.mem_of_getElem? (i := 5) rfl))) rfl
theorem se_X1_countRules : Cond.selects RX1 yX1_countRules yX1_countRules ∈ wL := wL_of (pv_in (yX1_countRules, 4) (pv_2 _ (List.mem_of_getElem? (i := 6) rfl))) rfl
theorem se_X1_countClashingPairs : Cond.selects RX1 yX1_countClashingPairs yX1_countClashingPairs ∈ wL := wL_of (pv_in (yX1_countClashingPairs, 4) (pv_2 _ (List.mem_of_getElem? (i := 7) rfl))) rfl
theorem se_X1_clashesOf : Cond.selects RX1 yX1_clashesOf yX1_clashesOf ∈ wL := wL_of (pv_in (yX1_clashesOf, 4) (pv_2 _ (List.mem_of_getElem? (i := 8) rfl))) rfl
theorem se_X3_clashesWith : Cond.selects RX3 yX3_clashesWith yX3_clashesWith ∈ wL := wL_of (pv_in (yX3_clashesWith, 6) (pv_2 _ (List.mem_of_getElem? (i := 9) rfl))) rfl
theorem se_X3_wordLength : Cond.selects RX3 yX3_wordLength yX3_wordLength ∈ wL := wL_of (pv_in (yX3_wordLength, 6) (pv_2 _ (List.mem_of_getElem? (i := 10) rfl))) rfl
theorem se_X1_leastOccurrences : Cond.selects RX1 yX1_leastOccurrences yX1_leastOccurrences ∈ wL := wL_of (pv_in (yX1_leastOccurrences, 4) (pv_2 _ (List.mem_of_getElem? (i := 11) rfl))) rfl
theorem se_X1_mostOccurrences : Cond.selects RX1 yX1_mostOccurrences yX1_mostOccurrences ∈ wL := wL_of (pv_in (yX1_mostOccurrences, 4) (pv_2 _ (List.mem_of_getElem? (i := 12) rfl))) rfl
theorem se_X3_letter : Cond.selects RX3 yX3_letter yX3_letter ∈ wL := wL_of (pv_in (yX3_letter, 6) (pv_2 _ (List.mem_of_getElem? (i := 13) rfl))) rfl
theorem se_X5_learn : Cond.selects RX5 yX5_learn yX5_learn ∈ wL := wL_of (pv_in (yX5_learn, 8) (pv_2 _ (List.mem_of_getElem? (i := 14) rfl))) rfl
theorem se_X5_findEnds : Cond.selects RX5 yX5_findEnds yX5_findEnds ∈ wL := wL_of (pv_in (yX5_findEnds, 8) (pv_2 _ (List.mem_of_getElem? (i := 15) rfl))) rfl
theorem se_X1_tallies : Cond.selects RX1 yX1_tallies yX1_tallies ∈ wL := wL_of (pv_in (yX1_tallies, 4) (pv_3 _ (List.mem_of_getElem? (i := 0) rfl))) rfl
theorem se_X5_endOf : Cond.selects RX5 yX5_endOf yX5_endOf ∈ wL := wL_of (pv_in (yX5_endOf, 8) (pv_3 _ (List.mem_of_getElem? (i := 1) rfl))) rfl
theorem se_X5_findSteps : Cond.selects RX5 yX5_findSteps yX5_findSteps ∈ wL := wL_of (pv_in (yX5_findSteps, 8) (pv_3 _ (List.mem_of_getElem? (i := 2) rfl))) rfl
theorem se_X5_startBehind : Cond.selects RX5 yX5_startBehind yX5_startBehind ∈ wL := wL_of (pv_in (yX5_startBehind, 8) (pv_3 _ (List.mem_of_getElem? (i := 3) rfl))) rfl
theorem se_X1_followers : Cond.selects RX1 yX1_followers yX1_followers ∈ wL := wL_of (pv_in (yX1_followers, 4) (pv_3 _ (List.mem_of_getElem? (i := 4) rfl))) rfl
theorem se_X1_presentIn : Cond.selects RX1 yX1_presentIn yX1_presentIn ∈ wL := wL_of (pv_in (yX1_presentIn, 4) (pv_3 _ (List.mem_of_getElem? (i := 5) rfl))) rfl
theorem se_X0_endOf : Cond.selects RX0 yX0_endOf yX0_endOf ∈ wL := wL_of (pv_in (yX0_endOf, 2) (pv_3 _ (List.mem_of_getElem? (i := 6) rfl))) rfl
theorem se_X0_lettersMatched : Cond.selects RX0 yX0_lettersMatched yX0_lettersMatched ∈ wL := wL_of (pv_in (yX0_lettersMatched, 2) (pv_3 _ (List.mem_of_getElem? (i := 7) rfl))) rfl
theorem se_X0_digitsFrom : Cond.selects RX0 yX0_digitsFrom yX0_digitsFrom ∈ wL := wL_of (pv_in (yX0_digitsFrom, 2) (pv_3 _ (List.mem_of_getElem? (i := 8) rfl))) rfl
theorem se_X5_countWays : Cond.selects RX5 yX5_countWays yX5_countWays ∈ wL := wL_of (pv_in (yX5_countWays, 8) (pv_3 _ (List.mem_of_getElem? (i := 9) rfl))) rfl
theorem se_X5_countFrom : Cond.selects RX5 yX5_countFrom yX5_countFrom ∈ wL := wL_of (pv_in (yX5_countFrom, 8) (pv_3 _ (List.mem_of_getElem? (i := 10) rfl))) rfl
theorem se_X1_isEnough : Cond.selects RX1 yX1_isEnough yX1_isEnough ∈ wL := wL_of (pv_in (yX1_isEnough, 4) (pv_3 _ (List.mem_of_getElem? (i := 11) rfl))) rfl
theorem se_X5_stepsFrom : Cond.selects RX5 yX5_stepsFrom yX5_stepsFrom ∈ wL := wL_of (pv_in (yX5_stepsFrom, 8) (pv_3 _ (List.mem_of_getElem? (i := 12) rfl))) rfl
theorem se_X5_waysFrom : Cond.selects RX5 yX5_waysFrom yX5_waysFrom ∈ wL := wL_of (pv_in (yX5_waysFrom, 8) (pv_3 _ (List.mem_of_getElem? (i := 13) rfl))) rfl
theorem se_X5_listFirst : Cond.selects RX5 yX5_listFirst yX5_listFirst ∈ wL := wL_of (pv_in (yX5_listFirst, 8) (pv_3 _ (List.mem_of_getElem? (i := 14) rfl))) rfl
theorem se_X5_firstBehind : Cond.selects RX5 yX5_firstBehind yX5_firstBehind ∈ wL := wL_of (pv_in (yX5_firstBehind, 8) (pv_3 _ (List.mem_of_getElem? (i := 15) rfl))) rfl
theorem se_X0_numberIn : Cond.selects RX0 yX0_numberIn yX0_numberIn ∈ wL := wL_of (pv_in (yX0_numberIn, 2) (pv_4 _ (List.mem_of_getElem? (i := 0) rfl))) rfl
theorem se_X5_exists : Cond.selects RX5 yX5_exists yX5_exists ∈ wL := wL_of (pv_in (yX5_exists, 8) (pv_4 _ (List.mem_of_getElem? (i := 1) rfl))) rfl
theorem se_X5_farthest : Cond.selects RX5 yX5_farthest yX5_farthest ∈ wL := wL_of (pv_in (yX5_farthest, 8) (pv_4 _ (List.mem_of_getElem? (i := 2) rfl))) rfl
theorem se_X5_farthestBehind : Cond.selects RX5 yX5_farthestBehind yX5_farthestBehind ∈ wL := wL_of (pv_in (yX5_farthestBehind, 8) (pv_4 _ (List.mem_of_getElem? (i := 3) rfl))) rfl
theorem se_X5_memberAt : Cond.selects RX5 yX5_memberAt yX5_memberAt ∈ wL := wL_of (pv_in (yX5_memberAt, 8) (pv_4 _ (List.mem_of_getElem? (i := 4) rfl))) rfl
theorem se_X5_startAt : Cond.selects RX5 yX5_startAt yX5_startAt ∈ wL := wL_of (pv_in (yX5_startAt, 8) (pv_4 _ (List.mem_of_getElem? (i := 5) rfl))) rfl
theorem se_X5_numberAt : Cond.selects RX5 yX5_numberAt yX5_numberAt ∈ wL := wL_of (pv_in (yX5_numberAt, 8) (pv_4 _ (List.mem_of_getElem? (i := 6) rfl))) rfl
theorem se_X5_membersGoingOn : Cond.selects RX5 yX5_membersGoingOn yX5_membersGoingOn ∈ wL := wL_of (pv_in (yX5_membersGoingOn, 8) (pv_4 _ (List.mem_of_getElem? (i := 7) rfl))) rfl
theorem se_X6_formNormal : Cond.selects RX6 yX6_formNormal yX6_formNormal ∈ wL := wL_of (pv_in (yX6_formNormal, 8) (pv_4 _ (List.mem_of_getElem? (i := 8) rfl))) rfl
theorem se_X0_appendOccurrence : Cond.selects RX0 yX0_appendOccurrence yX0_appendOccurrence ∈ wL := wL_of (pv_in (yX0_appendOccurrence, 2) (pv_4 _ (List.mem_of_getElem? (i := 9) rfl))) rfl
theorem se_X0_appendNumber : Cond.selects RX0 yX0_appendNumber yX0_appendNumber ∈ wL := wL_of (pv_in (yX0_appendNumber, 2) (pv_4 _ (List.mem_of_getElem? (i := 10) rfl))) rfl
theorem se_X4_learn : Cond.selects RX4 yX4_learn yX4_learn ∈ wL := wL_of (pv_in (yX4_learn, 2) (pv_4 _ (List.mem_of_getElem? (i := 11) rfl))) rfl
theorem se_X1_lengthOf : Cond.selects RX1 yX1_lengthOf yX1_lengthOf ∈ wL := wL_of (pv_in (yX1_lengthOf, 4) (pv_4 _ (List.mem_of_getElem? (i := 12) rfl))) rfl
theorem se_X4_countBehind : Cond.selects RX4 yX4_countBehind yX4_countBehind ∈ wL := wL_of (pv_in (yX4_countBehind, 2) (pv_4 _ (List.mem_of_getElem? (i := 13) rfl))) rfl
theorem se_X4_countFrom : Cond.selects RX4 yX4_countFrom yX4_countFrom ∈ wL := wL_of (pv_in (yX4_countFrom, 2) (pv_4 _ (List.mem_of_getElem? (i := 14) rfl))) rfl
theorem se_X4_memberOf : Cond.selects RX4 yX4_memberOf yX4_memberOf ∈ wL := wL_of (pv_in (yX4_memberOf, 2) (pv_4 _ (List.mem_of_getElem? (i := 15) rfl))) rfl
theorem se_X4_memberBehind : Cond.selects RX4 yX4_memberBehind yX4_memberBehind ∈ wL := wL_of (pv_in (yX4_memberBehind, 2) (pv_5 _ (List.mem_of_getElem? (i := 0) rfl))) rfl
theorem se_X4_numberOf : Cond.selects RX4 yX4_numberOf yX4_numberOf ∈ wL := wL_of (pv_in (yX4_numberOf, 2) (pv_5 _ (List.mem_of_getElem? (i := 1) rfl))) rfl
theorem se_X6_isImage : Cond.selects RX6 yX6_isImage yX6_isImage ∈ wL := wL_of (pv_in (yX6_isImage, 8) (pv_5 _ (List.mem_of_getElem? (i := 2) rfl))) rfl
theorem se_X7_isNewWord : Cond.selects RX7 yX7_isNewWord yX7_isNewWord ∈ wL := wL_of (pv_in (yX7_isNewWord, 17) (pv_5 _ (List.mem_of_getElem? (i := 3) rfl))) rfl
theorem se_X7_isWord : Cond.selects RX7 yX7_isWord yX7_isWord ∈ wL := wL_of (pv_in (yX7_isWord, 17) (pv_5 _ (List.mem_of_getElem? (i := 4) rfl))) rfl
theorem se_X7_isWordOf : Cond.selects RX7 yX7_isWordOf yX7_isWordOf ∈ wL := wL_of (pv_in (yX7_isWordOf, 17) (pv_5 _ (List.mem_of_getElem? (i := 5) rfl))) rfl
theorem se_X7_wordLength : Cond.selects RX7 yX7_wordLength yX7_wordLength ∈ wL := wL_of (pv_in (yX7_wordLength, 17) (pv_5 _ (List.mem_of_getElem? (i := 6) rfl))) rfl
theorem se_X7_letter : Cond.selects RX7 yX7_letter yX7_letter ∈ wL := wL_of (pv_in (yX7_letter, 17) (pv_5 _ (List.mem_of_getElem? (i := 7) rfl))) rfl
theorem se_X7_remember : Cond.selects RX7 yX7_remember yX7_remember ∈ wL := wL_of (pv_in (yX7_remember, 17) (pv_5 _ (List.mem_of_getElem? (i := 8) rfl))) rfl
theorem se_X7_isMember : Cond.selects RX7 yX7_isMember yX7_isMember ∈ wL := wL_of (pv_in (yX7_isMember, 17) (pv_5 _ (List.mem_of_getElem? (i := 9) rfl))) rfl
theorem se_X7_arrange : Cond.selects RX7 yX7_arrange yX7_arrange ∈ wL := wL_of (pv_in (yX7_arrange, 17) (pv_5 _ (List.mem_of_getElem? (i := 10) rfl))) rfl
theorem se_X7_old : Cond.selects RX7 yX7_old yX7_old ∈ wL := wL_of (pv_in (yX7_old, 17) (pv_5 _ (List.mem_of_getElem? (i := 11) rfl))) rfl
theorem se_X7_renamed : Cond.selects RX7 yX7_renamed yX7_renamed ∈ wL := wL_of (pv_in (yX7_renamed, 17) (pv_5 _ (List.mem_of_getElem? (i := 12) rfl))) rfl
theorem se_X7_rules : Cond.selects RX7 yX7_rules yX7_rules ∈ wL := wL_of (pv_in (yX7_rules, 17) (pv_5 _ (List.mem_of_getElem? (i := 13) rfl))) rfl
theorem se_X7_clashes : Cond.selects RX7 yX7_clashes yX7_clashes ∈ wL := wL_of (pv_in (yX7_clashes, 17) (pv_5 _ (List.mem_of_getElem? (i := 14) rfl))) rfl
theorem se_X7_clashing : Cond.selects RX7 yX7_clashing yX7_clashing ∈ wL := wL_of (pv_in (yX7_clashing, 17) (pv_5 _ (List.mem_of_getElem? (i := 15) rfl))) rfl
theorem se_X7_begins : Cond.selects RX7 yX7_begins yX7_begins ∈ wL := wL_of (pv_in (yX7_begins, 17) (pv_6 _ (List.mem_of_getElem? (i := 0) rfl))) rfl
theorem se_X7_sumOf : Cond.selects RX7 yX7_sumOf yX7_sumOf ∈ wL := wL_of (pv_in (yX7_sumOf, 17) (pv_6 _ (List.mem_of_getElem? (i := 1) rfl))) rfl
theorem se_X7_layWays : Cond.selects RX7 yX7_layWays yX7_layWays ∈ wL := wL_of (pv_in (yX7_layWays, 17) (pv_6 _ (List.mem_of_getElem? (i := 2) rfl))) rfl
theorem se_X7_layBeginnings : Cond.selects RX7 yX7_layBeginnings yX7_layBeginnings ∈ wL := wL_of (pv_in (yX7_layBeginnings, 17) (pv_6 _ (List.mem_of_getElem? (i := 3) rfl))) rfl
theorem se_X7_startOf : Cond.selects RX7 yX7_startOf yX7_startOf ∈ wL := wL_of (pv_in (yX7_startOf, 17) (pv_6 _ (List.mem_of_getElem? (i := 4) rfl))) rfl
theorem se_X7_may : Cond.selects RX7 yX7_may yX7_may ∈ wL := wL_of (pv_in (yX7_may, 17) (pv_6 _ (List.mem_of_getElem? (i := 5) rfl))) rfl
theorem se_X7_endOf : Cond.selects RX7 yX7_endOf yX7_endOf ∈ wL := wL_of (pv_in (yX7_endOf, 17) (pv_6 _ (List.mem_of_getElem? (i := 6) rfl))) rfl
theorem se_X7_matched : Cond.selects RX7 yX7_matched yX7_matched ∈ wL := wL_of (pv_in (yX7_matched, 17) (pv_6 _ (List.mem_of_getElem? (i := 7) rfl))) rfl
theorem se_X7_isDigitAt : Cond.selects RX7 yX7_isDigitAt yX7_isDigitAt ∈ wL := wL_of (pv_in (yX7_isDigitAt, 17) (pv_6 _ (List.mem_of_getElem? (i := 8) rfl))) rfl
theorem se_X7_waysFrom : Cond.selects RX7 yX7_waysFrom yX7_waysFrom ∈ wL := wL_of (pv_in (yX7_waysFrom, 17) (pv_6 _ (List.mem_of_getElem? (i := 9) rfl))) rfl
theorem se_X7_isWhole : Cond.selects RX7 yX7_isWhole yX7_isWhole ∈ wL := wL_of (pv_in (yX7_isWhole, 17) (pv_6 _ (List.mem_of_getElem? (i := 10) rfl))) rfl
theorem se_X7_furthest : Cond.selects RX7 yX7_furthest yX7_furthest ∈ wL := wL_of (pv_in (yX7_furthest, 17) (pv_6 _ (List.mem_of_getElem? (i := 11) rfl))) rfl
theorem se_X7_layReading : Cond.selects RX7 yX7_layReading yX7_layReading ∈ wL := wL_of (pv_in (yX7_layReading, 17) (pv_6 _ (List.mem_of_getElem? (i := 12) rfl))) rfl
theorem se_X7_valueAt : Cond.selects RX7 yX7_valueAt yX7_valueAt ∈ wL := wL_of (pv_in (yX7_valueAt, 17) (pv_6 _ (List.mem_of_getElem? (i := 13) rfl))) rfl
theorem se_X7_mayFollow : Cond.selects RX7 yX7_mayFollow yX7_mayFollow ∈ wL := wL_of (pv_in (yX7_mayFollow, 17) (pv_6 _ (List.mem_of_getElem? (i := 14) rfl))) rfl
theorem se_X7_layForm : Cond.selects RX7 yX7_layForm yX7_layForm ∈ wL := wL_of (pv_in (yX7_layForm, 17) (pv_6 _ (List.mem_of_getElem? (i := 15) rfl))) rfl
theorem se_X7_layValue : Cond.selects RX7 yX7_layValue yX7_layValue ∈ wL := wL_of (pv_in (yX7_layValue, 17) (pv_7 _ (List.mem_of_getElem? (i := 0) rfl))) rfl
theorem se_X7_layOrders : Cond.selects RX7 yX7_layOrders yX7_layOrders ∈ wL := wL_of (pv_in (yX7_layOrders, 17) (pv_7 _ (List.mem_of_getElem? (i := 1) rfl))) rfl
theorem se_X7_isState : Cond.selects RX7 yX7_isState yX7_isState ∈ wL := wL_of (pv_in (yX7_isState, 17) (pv_7 _ (List.mem_of_getElem? (i := 2) rfl))) rfl
theorem im_obj : Cond.instanceMethod objectInit ∈ wL := wL_of (tb_1 _ (List.mem_of_getElem? (i := 17) rfl)) rfl
theorem co_obj : Cond.code objectInit ⟨#[0xb1]⟩ 1 none ∈ wL := wL_of (tb_1 _ (List.mem_of_getElem? (i := 18) rfl)) rfl
theorem good_L : ∀ w ∈ wL, (w.onTables && w.keeps) = true ∨ ∃ ty, w = .arrayClass ty := fun w h => good_of_word (List.mem_filter.mp h).2
theorem inlX0 : ∀ w ∈ wsX00, w ∈ wL := by
  intro w hw
  obtain ⟨k, hk, rfl⟩ := List.mem_map.mp hw
  rw [List.mem_range] at hk
  rcases (show k = 0 ∨ k = 1 by omega) with rfl | rfl
  · exact la_X0_codes
  · exact la_X0_length
theorem inlX1 : ∀ w ∈ wsX10, w ∈ wL := by
  intro w hw
  obtain ⟨k, hk, rfl⟩ := List.mem_map.mp hw
  rw [List.mem_range] at hk
  rcases (show k = 0 ∨ k = 1 ∨ k = 2 ∨ k = 3 by omega) with rfl | rfl | rfl | rfl
  · exact la_X1_members
  · exact la_X1_nobody
  · exact la_X1_count
  · exact la_X1_separator
theorem inlX2 : ∀ w ∈ wsX20, w ∈ wL := by
  intro w hw
  obtain ⟨k, hk, rfl⟩ := List.mem_map.mp hw
  rw [List.mem_range] at hk
  rcases (show k = 0 ∨ k = 1 by omega) with rfl | rfl
  · exact la_X2_states
  · exact la_X2_count
theorem inlX3 : ∀ w ∈ wsX30, w ∈ wL := by
  intro w hw
  obtain ⟨k, hk, rfl⟩ := List.mem_map.mp hw
  rw [List.mem_range] at hk
  rcases (show k = 0 ∨ k = 1 ∨ k = 2 ∨ k = 3 ∨ k = 4 ∨ k = 5 by omega) with rfl | rfl | rfl | rfl | rfl | rfl
  · exact la_X3_word
  · exact la_X3_kind
  · exact la_X3_least
  · exact la_X3_most
  · exact la_X3_fallback
  · exact la_X3_before
theorem inlX4 : ∀ w ∈ wsX40, w ∈ wL := by
  intro w hw
  obtain ⟨k, hk, rfl⟩ := List.mem_map.mp hw
  rw [List.mem_range] at hk
  rcases (show k = 0 ∨ k = 1 by omega) with rfl | rfl
  · exact la_X4_counts
  · exact la_X4_knownLength
theorem inlX5 : ∀ w ∈ wsX50, w ∈ wL := by
  intro w hw
  obtain ⟨k, hk, rfl⟩ := List.mem_map.mp hw
  rw [List.mem_range] at hk
  rcases (show k = 0 ∨ k = 1 ∨ k = 2 ∨ k = 3 ∨ k = 4 ∨ k = 5 ∨ k = 6 ∨ k = 7 by omega) with rfl | rfl | rfl | rfl | rfl | rfl | rfl | rfl
  · exact la_X5_ends
  · exact la_X5_steps
  · exact la_X5_ways
  · exact la_X5_members
  · exact la_X5_starts
  · exact la_X5_numbers
  · exact la_X5_count
  · exact la_X5_known
theorem inlX6 : ∀ w ∈ wsX60, w ∈ wL := by
  intro w hw
  obtain ⟨k, hk, rfl⟩ := List.mem_map.mp hw
  rw [List.mem_range] at hk
  rcases (show k = 0 ∨ k = 1 ∨ k = 2 ∨ k = 3 ∨ k = 4 ∨ k = 5 ∨ k = 6 ∨ k = 7 by omega) with rfl | rfl | rfl | rfl | rfl | rfl | rfl | rfl
  · exact la_X6_text
  · exact la_X6_normalForm
  · exact la_X6_now
  · exact la_X6_history
  · exact la_X6_images
  · exact la_X6_kept
  · exact la_X6_reading
  · exact la_X6_orderTable
theorem inlX7 : ∀ w ∈ wsX70, w ∈ wL := by
  intro w hw
  obtain ⟨k, hk, rfl⟩ := List.mem_map.mp hw
  rw [List.mem_range] at hk
  rcases (show k = 0 ∨ k = 1 ∨ k = 2 ∨ k = 3 ∨ k = 4 ∨ k = 5 ∨ k = 6 ∨ k = 7 ∨ k = 8 ∨ k = 9 ∨ k = 10 ∨ k = 11 ∨ k = 12 ∨ k = 13 ∨ k = 14 ∨ k = 15 ∨ k = 16 by omega) with rfl | rfl | rfl | rfl | rfl | rfl | rfl | rfl | rfl | rfl | rfl | rfl | rfl | rfl | rfl | rfl | rfl
  · exact la_X7_w
  · exact la_X7_past
  · exact la_X7_pastMany
  · exact la_X7_images
  · exact la_X7_filled
  · exact la_X7_text
  · exact la_X7_length
  · exact la_X7_from
  · exact la_X7_isReached
  · exact la_X7_ways
  · exact la_X7_isLaid
  · exact la_X7_members
  · exact la_X7_places
  · exact la_X7_values
  · exact la_X7_form
  · exact la_X7_ahead
  · exact la_X7_behind
def nestW : List Cond := [Cond.methodLinkNest RX6 9 yX0_init "PhraseReader", Cond.fieldLinkNest RX6 62 "PhraseReader$Bytes" "length" "I" "PhraseReader", Cond.fieldLinkNest RX5 104 "PhraseReader$Bytes" "length" "I" "PhraseReader", Cond.methodLinkNest RX6 21 yX1_init "PhraseReader", Cond.methodLinkNest RX1 17 yX3_init "PhraseReader", Cond.fieldLinkNest RX1 37 "PhraseReader$Member" "word" "I" "PhraseReader", Cond.fieldLinkNest RX1 40 "PhraseReader$Member" "kind" "I" "PhraseReader", Cond.fieldLinkNest RX0 43 "PhraseReader$Member" "kind" "I" "PhraseReader", Cond.fieldLinkNest RX1 43 "PhraseReader$Member" "least" "I" "PhraseReader", Cond.fieldLinkNest RX1 46 "PhraseReader$Member" "most" "I" "PhraseReader", Cond.fieldLinkNest RX1 49 "PhraseReader$Member" "fallback" "I" "PhraseReader", Cond.fieldLinkNest RX6 198 "PhraseReader$Member" "fallback" "I" "PhraseReader", Cond.fieldLinkNest RX1 52 "PhraseReader$Member" "before" "I" "PhraseReader", Cond.fieldLinkNest RX6 117 "PhraseReader$Member" "before" "I" "PhraseReader", Cond.fieldLinkNest RX4 39 "PhraseReader$Declarations" "count" "I" "PhraseReader", Cond.fieldLinkNest RX6 79 "PhraseReader$Declarations" "count" "I" "PhraseReader", Cond.fieldLinkNest RX5 73 "PhraseReader$Declarations" "count" "I" "PhraseReader", Cond.fieldLinkNest RX6 114 "PhraseReader$Declarations" "separator" "I" "PhraseReader", Cond.fieldLinkNest RX5 90 "PhraseReader$Declarations" "separator" "I" "PhraseReader", Cond.methodLinkNest RX6 28 yX2_init "PhraseReader", Cond.methodLinkNest RX2 17 yX1_init "PhraseReader", Cond.fieldLinkNest RX6 127 "PhraseReader$History" "count" "I" "PhraseReader", Cond.methodLinkNest RX6 43 yX5_init "PhraseReader", Cond.fieldLinkNest RX4 63 "PhraseReader$Reading" "count" "I" "PhraseReader", Cond.fieldLinkNest RX6 197 "PhraseReader$Reading" "count" "I" "PhraseReader", Cond.methodLinkNest RX6 50 yX4_init "PhraseReader", Cond.methodLinkNest RX6 55 yX0_append "PhraseReader", Cond.methodLinkNest RX6 59 yX5_forget "PhraseReader", Cond.methodLinkNest RX6 66 yX0_clear "PhraseReader", Cond.methodLinkNest RX6 72 yX0_asWord "PhraseReader", Cond.methodLinkNest RX0 23 yX6_isSmallLetter "PhraseReader", Cond.methodLinkNest RX6 76 yX1_hasWord "PhraseReader", Cond.methodLinkNest RX6 135 yX2_record "PhraseReader", Cond.methodLinkNest RX2 25 yX1_copyFrom "PhraseReader", Cond.methodLinkNest RX1 33 yX3_copyFrom "PhraseReader", Cond.methodLinkNest RX6 138 yX4_forget "PhraseReader", Cond.methodLinkNest RX6 85 yX1_add "PhraseReader", Cond.methodLinkNest RX6 89 yX1_has "PhraseReader", Cond.methodLinkNest RX6 92 yX1_takeOut "PhraseReader", Cond.methodLinkNest RX1 59 yX6_withBitMoved "PhraseReader", Cond.methodLinkNest RX1 67 yX6_bitsBelow "PhraseReader", Cond.methodLinkNest RX6 96 yX1_at "PhraseReader", Cond.methodLinkNest RX6 100 yX3_accepts "PhraseReader", Cond.methodLinkNest RX3 44 yX6_isKind "PhraseReader", Cond.methodLinkNest RX6 106 yX3_exchange "PhraseReader", Cond.methodLinkNest RX6 110 yX1_reseat "PhraseReader", Cond.methodLinkNest RX6 128 yX2_restore "PhraseReader", Cond.methodLinkNest RX6 139 yX1_countRules "PhraseReader", Cond.methodLinkNest RX6 142 yX1_countClashingPairs "PhraseReader", Cond.methodLinkNest RX1 77 yX3_clashesWith "PhraseReader", Cond.methodLinkNest RX3 41 yX6_bitsBelow "PhraseReader", Cond.methodLinkNest RX6 145 yX1_leastOccurrences "PhraseReader", Cond.methodLinkNest RX6 148 yX1_mostOccurrences "PhraseReader", Cond.methodLinkNest RX6 151 yX3_wordLength "PhraseReader", Cond.methodLinkNest RX6 154 yX3_letter "PhraseReader", Cond.methodLinkNest RX6 158 yX1_clashesOf "PhraseReader", Cond.methodLinkNest RX6 161 yX3_property "PhraseReader", Cond.methodLinkNest RX6 164 yX5_learn "PhraseReader", Cond.methodLinkNest RX5 53 yX1_tallies "PhraseReader", Cond.methodLinkNest RX5 93 yX0_at "PhraseReader", Cond.methodLinkNest RX5 70 yX1_followers "PhraseReader", Cond.methodLinkNest RX1 84 yX6_timesIn "PhraseReader", Cond.methodLinkNest RX5 74 yX6_bitOf "PhraseReader", Cond.methodLinkNest RX5 78 yX1_at "PhraseReader", Cond.methodLinkNest RX5 82 yX0_endOf "PhraseReader", Cond.methodLinkNest RX0 27 yX3_wordLength "PhraseReader", Cond.methodLinkNest RX0 33 yX3_letter "PhraseReader", Cond.methodLinkNest RX0 36 yX6_isDigit "PhraseReader", Cond.methodLinkNest RX0 49 yX6_isCapital "PhraseReader", Cond.methodLinkNest RX5 87 yX6_withOneMore "PhraseReader", Cond.methodLinkNest RX5 107 yX1_isEnough "PhraseReader", Cond.methodLinkNest RX5 118 yX0_numberIn "PhraseReader", Cond.methodLinkNest RX6 168 yX5_exists "PhraseReader", Cond.methodLinkNest RX6 172 yX5_farthest "PhraseReader", Cond.methodLinkNest RX5 128 yX0_lettersMatched "PhraseReader", Cond.methodLinkNest RX6 176 yX5_waysFrom "PhraseReader", Cond.methodLinkNest RX6 188 yX5_memberAt "PhraseReader", Cond.methodLinkNest RX6 191 yX5_startAt "PhraseReader", Cond.methodLinkNest RX6 194 yX5_numberAt "PhraseReader", Cond.methodLinkNest RX6 201 yX5_membersGoingOn "PhraseReader", Cond.methodLinkNest RX6 209 yX0_appendOccurrence "PhraseReader", Cond.methodLinkNest RX6 207 yX0_at "PhraseReader", Cond.methodLinkNest RX6 215 yX4_learn "PhraseReader", Cond.methodLinkNest RX4 19 yX1_tallies "PhraseReader", Cond.methodLinkNest RX4 31 yX1_lengthOf "PhraseReader", Cond.methodLinkNest RX4 35 yX1_isEnough "PhraseReader", Cond.methodLinkNest RX4 46 yX1_followers "PhraseReader", Cond.methodLinkNest RX4 49 yX6_bitOf "PhraseReader", Cond.methodLinkNest RX4 52 yX6_withOneMore "PhraseReader", Cond.methodLinkNest RX6 218 yX4_countFrom "PhraseReader", Cond.methodLinkNest RX6 221 yX4_memberOf "PhraseReader", Cond.methodLinkNest RX6 227 yX4_numberOf "PhraseReader", Cond.methodLinkNest RX4 66 yX5_memberAt "PhraseReader", Cond.methodLinkNest RX6 234 yX1_copyFrom "PhraseReader"]
theorem nm_X6_9 : Cond.methodLinkNest RX6 9 yX0_init "PhraseReader" ∈ nestW := List.mem_of_getElem? (i := 0) rfl
theorem nf_X6_62 : Cond.fieldLinkNest RX6 62 "PhraseReader$Bytes" "length" "I" "PhraseReader" ∈ nestW := List.mem_of_getElem? (i := 1) rfl
theorem nf_X5_104 : Cond.fieldLinkNest RX5 104 "PhraseReader$Bytes" "length" "I" "PhraseReader" ∈ nestW := List.mem_of_getElem? (i := 2) rfl
theorem nm_X6_21 : Cond.methodLinkNest RX6 21 yX1_init "PhraseReader" ∈ nestW := List.mem_of_getElem? (i := 3) rfl
theorem nm_X1_17 : Cond.methodLinkNest RX1 17 yX3_init "PhraseReader" ∈ nestW := List.mem_of_getElem? (i := 4) rfl
theorem nf_X1_37 : Cond.fieldLinkNest RX1 37 "PhraseReader$Member" "word" "I" "PhraseReader" ∈ nestW := List.mem_of_getElem? (i := 5) rfl
theorem nf_X1_40 : Cond.fieldLinkNest RX1 40 "PhraseReader$Member" "kind" "I" "PhraseReader" ∈ nestW := List.mem_of_getElem? (i := 6) rfl
theorem nf_X0_43 : Cond.fieldLinkNest RX0 43 "PhraseReader$Member" "kind" "I" "PhraseReader" ∈ nestW := List.mem_of_getElem? (i := 7) rfl
theorem nf_X1_43 : Cond.fieldLinkNest RX1 43 "PhraseReader$Member" "least" "I" "PhraseReader" ∈ nestW := List.mem_of_getElem? (i := 8) rfl
theorem nf_X1_46 : Cond.fieldLinkNest RX1 46 "PhraseReader$Member" "most" "I" "PhraseReader" ∈ nestW := List.mem_of_getElem? (i := 9) rfl
theorem nf_X1_49 : Cond.fieldLinkNest RX1 49 "PhraseReader$Member" "fallback" "I" "PhraseReader" ∈ nestW := List.mem_of_getElem? (i := 10) rfl
theorem nf_X6_198 : Cond.fieldLinkNest RX6 198 "PhraseReader$Member" "fallback" "I" "PhraseReader" ∈ nestW := List.mem_of_getElem? (i := 11) rfl
theorem nf_X1_52 : Cond.fieldLinkNest RX1 52 "PhraseReader$Member" "before" "I" "PhraseReader" ∈ nestW := List.mem_of_getElem? (i := 12) rfl
theorem nf_X6_117 : Cond.fieldLinkNest RX6 117 "PhraseReader$Member" "before" "I" "PhraseReader" ∈ nestW := List.mem_of_getElem? (i := 13) rfl
theorem nf_X4_39 : Cond.fieldLinkNest RX4 39 "PhraseReader$Declarations" "count" "I" "PhraseReader" ∈ nestW := List.mem_of_getElem? (i := 14) rfl
theorem nf_X6_79 : Cond.fieldLinkNest RX6 79 "PhraseReader$Declarations" "count" "I" "PhraseReader" ∈ nestW := List.mem_of_getElem? (i := 15) rfl
theorem nf_X5_73 : Cond.fieldLinkNest RX5 73 "PhraseReader$Declarations" "count" "I" "PhraseReader" ∈ nestW := List.mem_of_getElem? (i := 16) rfl
theorem nf_X6_114 : Cond.fieldLinkNest RX6 114 "PhraseReader$Declarations" "separator" "I" "PhraseReader" ∈ nestW := List.mem_of_getElem? (i := 17) rfl
theorem nf_X5_90 : Cond.fieldLinkNest RX5 90 "PhraseReader$Declarations" "separator" "I" "PhraseReader" ∈ nestW := List.mem_of_getElem? (i := 18) rfl
theorem nm_X6_28 : Cond.methodLinkNest RX6 28 yX2_init "PhraseReader" ∈ nestW := List.mem_of_getElem? (i := 19) rfl
theorem nm_X2_17 : Cond.methodLinkNest RX2 17 yX1_init "PhraseReader" ∈ nestW := List.mem_of_getElem? (i := 20) rfl
theorem nf_X6_127 : Cond.fieldLinkNest RX6 127 "PhraseReader$History" "count" "I" "PhraseReader" ∈ nestW := List.mem_of_getElem? (i := 21) rfl
theorem nm_X6_43 : Cond.methodLinkNest RX6 43 yX5_init "PhraseReader" ∈ nestW := List.mem_of_getElem? (i := 22) rfl
theorem nf_X4_63 : Cond.fieldLinkNest RX4 63 "PhraseReader$Reading" "count" "I" "PhraseReader" ∈ nestW := List.mem_of_getElem? (i := 23) rfl
theorem nf_X6_197 : Cond.fieldLinkNest RX6 197 "PhraseReader$Reading" "count" "I" "PhraseReader" ∈ nestW := List.mem_of_getElem? (i := 24) rfl
theorem nm_X6_50 : Cond.methodLinkNest RX6 50 yX4_init "PhraseReader" ∈ nestW := List.mem_of_getElem? (i := 25) rfl
theorem nm_X6_55 : Cond.methodLinkNest RX6 55 yX0_append "PhraseReader" ∈ nestW := List.mem_of_getElem? (i := 26) rfl
theorem nm_X6_59 : Cond.methodLinkNest RX6 59 yX5_forget "PhraseReader" ∈ nestW := List.mem_of_getElem? (i := 27) rfl
theorem nm_X6_66 : Cond.methodLinkNest RX6 66 yX0_clear "PhraseReader" ∈ nestW := List.mem_of_getElem? (i := 28) rfl
theorem nm_X6_72 : Cond.methodLinkNest RX6 72 yX0_asWord "PhraseReader" ∈ nestW := List.mem_of_getElem? (i := 29) rfl
theorem nm_X0_23 : Cond.methodLinkNest RX0 23 yX6_isSmallLetter "PhraseReader" ∈ nestW := List.mem_of_getElem? (i := 30) rfl
theorem nm_X6_76 : Cond.methodLinkNest RX6 76 yX1_hasWord "PhraseReader" ∈ nestW := List.mem_of_getElem? (i := 31) rfl
theorem nm_X6_135 : Cond.methodLinkNest RX6 135 yX2_record "PhraseReader" ∈ nestW := List.mem_of_getElem? (i := 32) rfl
theorem nm_X2_25 : Cond.methodLinkNest RX2 25 yX1_copyFrom "PhraseReader" ∈ nestW := List.mem_of_getElem? (i := 33) rfl
theorem nm_X1_33 : Cond.methodLinkNest RX1 33 yX3_copyFrom "PhraseReader" ∈ nestW := List.mem_of_getElem? (i := 34) rfl
theorem nm_X6_138 : Cond.methodLinkNest RX6 138 yX4_forget "PhraseReader" ∈ nestW := List.mem_of_getElem? (i := 35) rfl
theorem nm_X6_85 : Cond.methodLinkNest RX6 85 yX1_add "PhraseReader" ∈ nestW := List.mem_of_getElem? (i := 36) rfl
theorem nm_X6_89 : Cond.methodLinkNest RX6 89 yX1_has "PhraseReader" ∈ nestW := List.mem_of_getElem? (i := 37) rfl
theorem nm_X6_92 : Cond.methodLinkNest RX6 92 yX1_takeOut "PhraseReader" ∈ nestW := List.mem_of_getElem? (i := 38) rfl
theorem nm_X1_59 : Cond.methodLinkNest RX1 59 yX6_withBitMoved "PhraseReader" ∈ nestW := List.mem_of_getElem? (i := 39) rfl
theorem nm_X1_67 : Cond.methodLinkNest RX1 67 yX6_bitsBelow "PhraseReader" ∈ nestW := List.mem_of_getElem? (i := 40) rfl
theorem nm_X6_96 : Cond.methodLinkNest RX6 96 yX1_at "PhraseReader" ∈ nestW := List.mem_of_getElem? (i := 41) rfl
theorem nm_X6_100 : Cond.methodLinkNest RX6 100 yX3_accepts "PhraseReader" ∈ nestW := List.mem_of_getElem? (i := 42) rfl
theorem nm_X3_44 : Cond.methodLinkNest RX3 44 yX6_isKind "PhraseReader" ∈ nestW := List.mem_of_getElem? (i := 43) rfl
theorem nm_X6_106 : Cond.methodLinkNest RX6 106 yX3_exchange "PhraseReader" ∈ nestW := List.mem_of_getElem? (i := 44) rfl
theorem nm_X6_110 : Cond.methodLinkNest RX6 110 yX1_reseat "PhraseReader" ∈ nestW := List.mem_of_getElem? (i := 45) rfl
theorem nm_X6_128 : Cond.methodLinkNest RX6 128 yX2_restore "PhraseReader" ∈ nestW := List.mem_of_getElem? (i := 46) rfl
theorem nm_X6_139 : Cond.methodLinkNest RX6 139 yX1_countRules "PhraseReader" ∈ nestW := List.mem_of_getElem? (i := 47) rfl
theorem nm_X6_142 : Cond.methodLinkNest RX6 142 yX1_countClashingPairs "PhraseReader" ∈ nestW := List.mem_of_getElem? (i := 48) rfl
theorem nm_X1_77 : Cond.methodLinkNest RX1 77 yX3_clashesWith "PhraseReader" ∈ nestW := List.mem_of_getElem? (i := 49) rfl
theorem nm_X3_41 : Cond.methodLinkNest RX3 41 yX6_bitsBelow "PhraseReader" ∈ nestW := List.mem_of_getElem? (i := 50) rfl
theorem nm_X6_145 : Cond.methodLinkNest RX6 145 yX1_leastOccurrences "PhraseReader" ∈ nestW := List.mem_of_getElem? (i := 51) rfl
theorem nm_X6_148 : Cond.methodLinkNest RX6 148 yX1_mostOccurrences "PhraseReader" ∈ nestW := List.mem_of_getElem? (i := 52) rfl
theorem nm_X6_151 : Cond.methodLinkNest RX6 151 yX3_wordLength "PhraseReader" ∈ nestW := List.mem_of_getElem? (i := 53) rfl
theorem nm_X6_154 : Cond.methodLinkNest RX6 154 yX3_letter "PhraseReader" ∈ nestW := List.mem_of_getElem? (i := 54) rfl
theorem nm_X6_158 : Cond.methodLinkNest RX6 158 yX1_clashesOf "PhraseReader" ∈ nestW := List.mem_of_getElem? (i := 55) rfl
theorem nm_X6_161 : Cond.methodLinkNest RX6 161 yX3_property "PhraseReader" ∈ nestW := List.mem_of_getElem? (i := 56) rfl
theorem nm_X6_164 : Cond.methodLinkNest RX6 164 yX5_learn "PhraseReader" ∈ nestW := List.mem_of_getElem? (i := 57) rfl
theorem nm_X5_53 : Cond.methodLinkNest RX5 53 yX1_tallies "PhraseReader" ∈ nestW := List.mem_of_getElem? (i := 58) rfl
theorem nm_X5_93 : Cond.methodLinkNest RX5 93 yX0_at "PhraseReader" ∈ nestW := List.mem_of_getElem? (i := 59) rfl
theorem nm_X5_70 : Cond.methodLinkNest RX5 70 yX1_followers "PhraseReader" ∈ nestW := List.mem_of_getElem? (i := 60) rfl
theorem nm_X1_84 : Cond.methodLinkNest RX1 84 yX6_timesIn "PhraseReader" ∈ nestW := List.mem_of_getElem? (i := 61) rfl
theorem nm_X5_74 : Cond.methodLinkNest RX5 74 yX6_bitOf "PhraseReader" ∈ nestW := List.mem_of_getElem? (i := 62) rfl
theorem nm_X5_78 : Cond.methodLinkNest RX5 78 yX1_at "PhraseReader" ∈ nestW := List.mem_of_getElem? (i := 63) rfl
theorem nm_X5_82 : Cond.methodLinkNest RX5 82 yX0_endOf "PhraseReader" ∈ nestW := List.mem_of_getElem? (i := 64) rfl
theorem nm_X0_27 : Cond.methodLinkNest RX0 27 yX3_wordLength "PhraseReader" ∈ nestW := List.mem_of_getElem? (i := 65) rfl
theorem nm_X0_33 : Cond.methodLinkNest RX0 33 yX3_letter "PhraseReader" ∈ nestW := List.mem_of_getElem? (i := 66) rfl
theorem nm_X0_36 : Cond.methodLinkNest RX0 36 yX6_isDigit "PhraseReader" ∈ nestW := List.mem_of_getElem? (i := 67) rfl
theorem nm_X0_49 : Cond.methodLinkNest RX0 49 yX6_isCapital "PhraseReader" ∈ nestW := List.mem_of_getElem? (i := 68) rfl
theorem nm_X5_87 : Cond.methodLinkNest RX5 87 yX6_withOneMore "PhraseReader" ∈ nestW := List.mem_of_getElem? (i := 69) rfl
theorem nm_X5_107 : Cond.methodLinkNest RX5 107 yX1_isEnough "PhraseReader" ∈ nestW := List.mem_of_getElem? (i := 70) rfl
theorem nm_X5_118 : Cond.methodLinkNest RX5 118 yX0_numberIn "PhraseReader" ∈ nestW := List.mem_of_getElem? (i := 71) rfl
theorem nm_X6_168 : Cond.methodLinkNest RX6 168 yX5_exists "PhraseReader" ∈ nestW := List.mem_of_getElem? (i := 72) rfl
theorem nm_X6_172 : Cond.methodLinkNest RX6 172 yX5_farthest "PhraseReader" ∈ nestW := List.mem_of_getElem? (i := 73) rfl
theorem nm_X5_128 : Cond.methodLinkNest RX5 128 yX0_lettersMatched "PhraseReader" ∈ nestW := List.mem_of_getElem? (i := 74) rfl
theorem nm_X6_176 : Cond.methodLinkNest RX6 176 yX5_waysFrom "PhraseReader" ∈ nestW := List.mem_of_getElem? (i := 75) rfl
theorem nm_X6_188 : Cond.methodLinkNest RX6 188 yX5_memberAt "PhraseReader" ∈ nestW := List.mem_of_getElem? (i := 76) rfl
theorem nm_X6_191 : Cond.methodLinkNest RX6 191 yX5_startAt "PhraseReader" ∈ nestW := List.mem_of_getElem? (i := 77) rfl
theorem nm_X6_194 : Cond.methodLinkNest RX6 194 yX5_numberAt "PhraseReader" ∈ nestW := List.mem_of_getElem? (i := 78) rfl
theorem nm_X6_201 : Cond.methodLinkNest RX6 201 yX5_membersGoingOn "PhraseReader" ∈ nestW := List.mem_of_getElem? (i := 79) rfl
theorem nm_X6_209 : Cond.methodLinkNest RX6 209 yX0_appendOccurrence "PhraseReader" ∈ nestW := List.mem_of_getElem? (i := 80) rfl
theorem nm_X6_207 : Cond.methodLinkNest RX6 207 yX0_at "PhraseReader" ∈ nestW := List.mem_of_getElem? (i := 81) rfl
theorem nm_X6_215 : Cond.methodLinkNest RX6 215 yX4_learn "PhraseReader" ∈ nestW := List.mem_of_getElem? (i := 82) rfl
theorem nm_X4_19 : Cond.methodLinkNest RX4 19 yX1_tallies "PhraseReader" ∈ nestW := List.mem_of_getElem? (i := 83) rfl
theorem nm_X4_31 : Cond.methodLinkNest RX4 31 yX1_lengthOf "PhraseReader" ∈ nestW := List.mem_of_getElem? (i := 84) rfl
theorem nm_X4_35 : Cond.methodLinkNest RX4 35 yX1_isEnough "PhraseReader" ∈ nestW := List.mem_of_getElem? (i := 85) rfl
theorem nm_X4_46 : Cond.methodLinkNest RX4 46 yX1_followers "PhraseReader" ∈ nestW := List.mem_of_getElem? (i := 86) rfl
theorem nm_X4_49 : Cond.methodLinkNest RX4 49 yX6_bitOf "PhraseReader" ∈ nestW := List.mem_of_getElem? (i := 87) rfl
theorem nm_X4_52 : Cond.methodLinkNest RX4 52 yX6_withOneMore "PhraseReader" ∈ nestW := List.mem_of_getElem? (i := 88) rfl
theorem nm_X6_218 : Cond.methodLinkNest RX6 218 yX4_countFrom "PhraseReader" ∈ nestW := List.mem_of_getElem? (i := 89) rfl
theorem nm_X6_221 : Cond.methodLinkNest RX6 221 yX4_memberOf "PhraseReader" ∈ nestW := List.mem_of_getElem? (i := 90) rfl
theorem nm_X6_227 : Cond.methodLinkNest RX6 227 yX4_numberOf "PhraseReader" ∈ nestW := List.mem_of_getElem? (i := 91) rfl
theorem nm_X4_66 : Cond.methodLinkNest RX4 66 yX5_memberAt "PhraseReader" ∈ nestW := List.mem_of_getElem? (i := 92) rfl
theorem nm_X6_234 : Cond.methodLinkNest RX6 234 yX1_copyFrom "PhraseReader" ∈ nestW := List.mem_of_getElem? (i := 93) rfl
set_option maxRecDepth 20000 in
theorem nestW_in : ∀ w ∈ nestW, w ∈ tables_1 := by
  have h : nestW = ([21, 27, 28, 37, 44, 49, 51, 52, 54, 56, 58, 59, 61, 62, 79, 80, 81, 83, 84, 96, 102, 105, 113, 124, 125, 148, 188, 192, 200, 211, 219, 222, 234, 242, 246, 254, 258, 266, 270, 279, 288, 293, 294, 298, 299, 311, 327, 335, 345, 353, 365, 366, 370, 378, 379, 383, 384, 389, 397, 413, 414, 422, 425, 426, 427, 431, 436, 441, 444, 447, 459, 479, 483, 487, 495, 503, 512, 516, 520, 532, 544, 553, 559, 563, 565, 569, 574, 575, 576, 581, 586, 599, 603, 612] : List Nat).filterMap (fun i => tables_1[i]?) := by decide +kernel
  intro w hw
  rw [h] at hw
  obtain ⟨i, -, hi⟩ := List.mem_filterMap.mp hw
  exact List.mem_of_getElem? hi
def isNest (w : Cond) : Bool := match w with
  | .fieldLinkNest .. => true
  | .methodLinkNest .. => true
  | _ => false
theorem nest_all : nestW.all isNest = true := by decide +kernel
theorem nest_is (w : Cond) (h : w ∈ nestW) : isNest w = true := List.all_eq_true.mp nest_all w h
theorem nest_mv {w : Cond} (hn : isNest w = true) {s U : State} (hW : s.WarmedH U.vm) (h : va_Nw w s) : va_Nw w U := by
  unfold isNest at hn
  split at hn
  · exact va_Nw.warmF hW h
  · exact va_Nw.warmM hW h
  · cases hn
theorem nest_on {w : Cond} (hn : isNest w = true) : w.onTables = true := by
  unfold isNest at hn
  split at hn
  · rfl
  · rfl
  · cases hn
def nestOK (U : State) : Prop := ∀ w ∈ nestW, va_Nw w U
theorem nestOK.moved {s U : State} (hW : s.WarmedH U.vm) (h : nestOK s) : nestOK U := fun w hw => nest_mv (nest_is w hw) hW (h w hw)
theorem nestOK.same {s U : State} (hv : s.vm = U.vm) (h : nestOK s) : nestOK U := fun w hw => va_Nw.same (nest_on (nest_is w hw)) hv (h w hw)

def s_kdL : List Nat := [6, 0, 8, 0, 8, 1, 11, 3, 3, 3, 3, 3, 3, 3, 2, 12, 1, 11, 3, 3, 3, 3, 3, 3, 3, 1, 11, 3, 3, 3, 3, 3, 3, 3, 1, 11, 3, 3, 3, 3, 3, 3, 3, 1, 11, 3, 3, 3, 3, 3, 3, 3, 1, 11, 3, 3, 3, 3, 3, 3, 3, 1, 11, 3, 3, 3, 3, 3, 3, 3, 1, 11, 3, 3, 3, 3, 3, 3, 3, 1, 11, 3, 3, 3, 3, 3, 3, 3, 12, 10, 5, 8, 8, 9, 8, 8, 8, 4, 9, 1, 11, 3, 3, 3, 3, 3, 3, 3, 1, 11, 3, 3, 3, 3, 3, 3, 3, 7, 8, 8, 8, 8, 8, 10, 8, 8, 8, 8, 8, 9, 9]
def s_lnL : List Nat := [0, 0, 60, 0, 60, 0, 6, 0, 0, 0, 0, 0, 0, 0, 0, 8, 0, 6, 0, 0, 0, 0, 0, 0, 0, 0, 6, 0, 0, 0, 0, 0, 0, 0, 0, 6, 0, 0, 0, 0, 0, 0, 0, 0, 6, 0, 0, 0, 0, 0, 0, 0, 0, 6, 0, 0, 0, 0, 0, 0, 0, 0, 6, 0, 0, 0, 0, 0, 0, 0, 0, 6, 0, 0, 0, 0, 0, 0, 0, 0, 6, 0, 0, 0, 0, 0, 0, 0, 2, 2, 0, 4096, 4096, 4096, 18, 18, 18, 0, 4096, 0, 6, 0, 0, 0, 0, 0, 0, 0, 0, 6, 0, 0, 0, 0, 0, 0, 0, 0, 50, 400, 100, 60, 6, 249856, 249856, 20, 20, 20, 200, 4096, 4096]
def s_fnL : List (List Nat) := [[1, 3, 5, 14, 88, 89, 90, 97], [2], [], [4], [], [6, 7], [], [], [], [], [], [], [], [], [15], [], [17, 18], [], [], [], [], [], [], [], [], [26, 27], [], [], [], [], [], [], [], [], [35, 36], [], [], [], [], [], [], [], [], [44, 45], [], [], [], [], [], [], [], [], [53, 54], [], [], [], [], [], [], [], [], [62, 63], [], [], [], [], [], [], [], [], [71, 72], [], [], [], [], [], [], [], [], [80, 81], [], [], [], [], [], [], [], [], [], [], [91, 92, 93, 94, 95, 96], [], [], [], [], [], [], [98], [], [100, 101], [], [], [], [], [], [], [], [], [109, 110], [], [], [], [], [], [], [], [], [118, 119, 0, 120, 0, 121, 0, 122, 123, 124, 0, 125, 126, 127, 128, 129, 130], [], [], [], [], [], [], [], [], [], [], [], [], []]
def s_kd (k : Nat) : Nat := s_kdL.getD k 99
def s_len (k : Nat) : Nat := s_lnL.getD k 0
def s_fin (k j : Nat) : Nat := (s_fnL.getD k []).getD j 999
abbrev Sg : Type := (Nat → Nat → Int32) × (Nat → Nat → Int64) × (Nat → Nat → Nat)
/-- classes' numbers, the array classes' numbers, the first address -/
abbrev s_G : Type := va_G × (Nat → ClassId) × Nat
def upd2 {α : Type} (f : Nat → Nat → α) (k j : Nat) (v : α) : Nat → Nat → α := fun a b => if a = k ∧ b = j then v else f a b
theorem upd2_ne {α : Type} {f : Nat → Nat → α} {k j q : Nat} {v : α} (h : q ≠ k) : upd2 f k j v q = f q := by
  funext b; simp [upd2, h]
theorem upd2_row {α : Type} {f : Nat → Nat → α} {k j : Nat} {v : α} : upd2 f k j v k = fun b => if b = j then v else f k b := by
  funext b; simp [upd2]
def setI (σ : Sg) (k j : Nat) (v : Int32) : Sg := (upd2 σ.1 k j v, σ.2)
def setL (σ : Sg) (k j : Nat) (v : Int64) : Sg := (σ.1, upd2 σ.2.1 k j v, σ.2.2)
def setR (σ : Sg) (k j : Nat) (v : Nat) : Sg := (σ.1, σ.2.1, upd2 σ.2.2 k j v)
def s_cell (G : s_G) (ri : Nat → Int32) (rl : Nat → Int64) (rr : Nat → Nat) (k : Nat) : va_E := match s_kd k with
  | 0 => .inr (0, [.ref (G.2.2 + s_fin k 0), .int (ri 1)])
  | 1 => .inr (1, [.ref (G.2.2 + s_fin k 0), .ref (G.2.2 + s_fin k 1), .int (ri 2), .int (ri 3)])
  | 2 => .inr (2, [.ref (G.2.2 + s_fin k 0), .int (ri 1)])
  | 3 => .inr (3, [.int (ri 0), .int (ri 1), .int (ri 2), .int (ri 3), .int (ri 4), .int (ri 5)])
  | 4 => .inr (4, [.ref (G.2.2 + s_fin k 0), .int (ri 1)])
  | 5 => .inr (5, [.ref (G.2.2 + s_fin k 0), .ref (G.2.2 + s_fin k 1), .ref (G.2.2 + s_fin k 2), .ref (G.2.2 + s_fin k 3), .ref (G.2.2 + s_fin k 4), .ref (G.2.2 + s_fin k 5), .int (ri 6), .int (ri 7)])
  | 6 => .inr (6, [.ref (G.2.2 + s_fin k 0), .ref (G.2.2 + s_fin k 1), .ref (G.2.2 + s_fin k 2), .ref (G.2.2 + s_fin k 3), .ref (G.2.2 + s_fin k 4), .ref (G.2.2 + s_fin k 5), .ref (G.2.2 + s_fin k 6), .ref (G.2.2 + s_fin k 7)])
  | 7 => .inr (7, [.ref (G.2.2 + s_fin k 0), .ref (G.2.2 + s_fin k 1), .int (ri 2), .ref (G.2.2 + s_fin k 3), .int (ri 4), .ref (G.2.2 + s_fin k 5), .int (ri 6), .ref (G.2.2 + s_fin k 7), .ref (G.2.2 + s_fin k 8), .ref (G.2.2 + s_fin k 9), .int (ri 10), .ref (G.2.2 + s_fin k 11), .ref (G.2.2 + s_fin k 12), .ref (G.2.2 + s_fin k 13), .ref (G.2.2 + s_fin k 14), .ref (G.2.2 + s_fin k 15), .ref (G.2.2 + s_fin k 16)])
  | 8 => .inl (G.2.1 8, s_len k, .inl ri)
  | 9 => .inl (G.2.1 9, s_len k, .inr (.inl rl))
  | 10 => .inl (G.2.1 10, s_len k, .inl ri)
  | 11 => .inl (G.2.1 11, s_len k, .inr (.inr (.inr (.inr (fun j => some (G.2.2 + rr j))))))
  | _ => .inl (G.2.1 12, s_len k, .inr (.inr (.inr (.inr (fun j => some (G.2.2 + rr j))))))
abbrev s_cl (G : s_G) (σ : Sg) (k : Nat) : va_E := s_cell G (σ.1 k) (σ.2.1 k) (σ.2.2 k) k
def s_W (G : s_G) (σ : Sg) : va_W := (List.range 131).map (fun k => (G.2.2 + k, s_cl G σ k))
def s_A (s0 : Nat) : Nat → Prop := fun q => s0 ≤ q
def s_tys (G : s_G) : List (ClassId × FieldType) := [(G.2.1 8, .int), (G.2.1 9, .long), (G.2.1 10, .boolean), (G.2.1 11, .object "PhraseReader$Member"), (G.2.1 12, .object "PhraseReader$Declarations")]
theorem s_kd_lt {k c : Nat} (h : s_kd k = c) (hc : c < 99) : k < 131 := by
  rcases Nat.lt_or_ge k 131 with q | q
  · exact q
  · exfalso
    have : s_kd k = 99 := by
      unfold s_kd
      rw [List.getD_eq_getElem?_getD, List.getElem?_eq_none (by show 131 ≤ k; exact q)]
      rfl
    omega
theorem s_at0 (G : s_G) (σ : Sg) {k : Nat} (hk : k < 131) : (s_W G σ)[k]? = some (G.2.2 + k, s_cl G σ k) := by
  simp [s_W, hk]
theorem s_at (G : s_G) (σ : Sg) {k c : Nat} (h : s_kd k = c) (hc : c < 99) : (s_W G σ)[k]? = some (G.2.2 + k, s_cl G σ k) := s_at0 G σ (s_kd_lt h hc)
theorem s_D (G : s_G) (σ : Sg) : va_D (s_A G.2.2) (s_W G σ) := by
  have key : ∀ (k : Nat) (q : Nat × va_E), (s_W G σ)[k]? = some q → k < 131 ∧ q.1 = G.2.2 + k := by
    intro k q h
    have hk : k < 131 := by
      have := (List.getElem?_eq_some_iff.mp h).1
      simpa [s_W] using this
    rw [s_at0 G σ hk] at h
    cases h
    exact ⟨hk, rfl⟩
  refine ⟨fun i j p q hi hj hpq => ?_, fun k q hq => ?_⟩
  · have h1 := (key i p hi).2
    have h2 := (key j q hj).2
    omega
  · have h1 := (key k q hq).2
    show G.2.2 ≤ q.1
    omega
theorem s_set {G : s_G} {σ σ' : Sg} {k : Nat} {e : va_E} (hk : k < 131) (hs : ∀ q, q ≠ k → s_cl G σ' q = s_cl G σ q) (he : s_cl G σ' k = e) : (s_W G σ).set k (G.2.2 + k, e) = s_W G σ' := by
  apply List.ext_getElem?
  intro i
  by_cases hi : i = k
  · subst hi
    rw [List.getElem?_set_self (by simpa [s_W] using hk), s_at0 G σ' hk, he]
  · rw [List.getElem?_set_ne (Ne.symm hi)]
    by_cases hl : i < 131
    · rw [s_at0 G σ hl, s_at0 G σ' hl, hs i hi]
    · rw [List.getElem?_eq_none (by simp [s_W]; omega), List.getElem?_eq_none (by simp [s_W]; omega)]
def s_rok (σ : Sg) : Prop := ∀ k j, j < s_len k → (s_kd k = 11 → s_kd (σ.2.2 k j) = 3) ∧ (s_kd k = 12 → s_kd (σ.2.2 k j) = 1)
theorem s_rokI {σ : Sg} (h : s_rok σ) (k j : Nat) (v : Int32) : s_rok (setI σ k j v) := h
theorem s_rokL {σ : Sg} (h : s_rok σ) (k j : Nat) (v : Int64) : s_rok (setL σ k j v) := h
theorem s_rokR {σ : Sg} (h : s_rok σ) {k : Nat} (j : Nat) {v : Nat} (h1 : s_kd k = 11 → s_kd v = 3) (h2 : s_kd k = 12 → s_kd v = 1) : s_rok (setR σ k j v) := by
  intro a b hb
  show (s_kd a = 11 → s_kd (upd2 σ.2.2 k j v a b) = 3) ∧ (s_kd a = 12 → s_kd (upd2 σ.2.2 k j v a b) = 1)
  unfold upd2
  by_cases q : a = k ∧ b = j
  · rw [if_pos q]; obtain ⟨rfl, rfl⟩ := q; exact ⟨h1, h2⟩
  · rw [if_neg q]; exact h a b hb
/-- the world stands: cells, frame, kinds of the references -/
def s_St (G : s_G) (σ : Sg) (H0 H : Heap) (locs : List Loc) : Prop := va_P G.1 vwCl (s_W G σ) H ∧ va_S (s_A G.2.2) H0 H locs ∧ s_rok σ
/-- what a method may use all along -/
def s_C (G : s_G) (p : Program) (s : State) (args : Array Value) (m : MethodId) (c : Code) (own : String) (cc : ByteArray) : Prop := p.tables.exec = Jvm.exec ∧ c.code = cc ∧ s.vm.findClass own = some m.cls ∧ (∀ w ∈ wL, w.before args s = true) ∧ va_K G.1 vwCl (s_tys G) s ∧ nestOK s
def s_Pre (G : s_G) (σ : Sg) (U : State) : Prop := va_P G.1 vwCl (s_W G σ) U.heap ∧ s_rok σ ∧ va_K G.1 vwCl (s_tys G) U ∧ nestOK U
def s_B (G : s_G) (σ : Sg) (t : State) : Prop := va_P G.1 vwCl (s_W G σ) t.heap ∧ s_rok σ
abbrev wsU (y : MethodName) (cc : ByteArray) (n : Nat) (ret : Option FieldType) : List Cond := Cond.code y cc n ret :: wL
theorem s_Pre.blind (G : s_G) (σ : Sg) (av : List Value) : FrameBlind (va_Pc av (s_Pre G σ)) := fun a U g mk q => by
  obtain ⟨q0, qP, qR, qK, qN⟩ := q
  exact ⟨q0, qP, qR, va_K.moved (u := U) (U := U.calling g mk a) (Vm.Alike.refl U.vm) qK, nestOK.same (s := U) (U := U.calling g mk a) rfl qN⟩
/-- what a callee is: its words -/
def s_M (y : MethodName) (cc : ByteArray) (n : Nat) (ret : Option FieldType) (np : Nat) : Prop := Cond.code y cc n ret ∈ wL ∧ Cond.initialized y.cls ∈ wL ∧ y.cls ≠ "java/lang/invoke/MethodHandle" ∧ y.cls ≠ "java/lang/invoke/VarHandle" ∧ (parseMethodDescriptor y.desc).map (fun d => d.parameters.length) = some np
theorem good_U {y : MethodName} {cc : ByteArray} {n np : Nat} {ret : Option FieldType} (h : s_M y cc n ret np) : GoodIn wL (wsU y cc n ret) := fun w hw => by
  rcases List.mem_cons.mp hw with rfl | hw
  · exact ⟨h.1, good_L _ h.1⟩
  · exact ⟨hw, good_L _ hw⟩

section BASE
variable {p : Program} {l : Launch} {e : Env} {R : Room} {s : State} {m : MethodId} {args : Array Value} {below : List Frame} {meth : Method} {c : Code} {H H0 : Heap} {locs : List Loc} {cells slots : Nat} {Q : State → Prop}
variable {cc bytes : ByteArray} {pc idx : Nat} {ls : Array Slot} {rest st0 : List Value} {G : s_G} {σ : Sg} {own : String} {k : Nat}

theorem g_X0_0 (C : s_C G p s args m c own cc) (hlink : Cond.fieldLink own idx "PhraseReader$Bytes" "codes" "[I" ∈ wL) (hk : s_kd k = 0) (S : s_St G σ H0 H locs) {q : Nat} (hf : s_fin k 0 = q) (hdg : decode cc pc = .ok (.getfield idx, 3)) (kk : W p l e R s m args below meth c H locs cells slots Q (F0 m (pc + 3) ls (.ref (G.2.2 + q) :: rest))) : W p l e R s m args below meth c H locs cells slots Q (F0 m pc ls (.ref (G.2.2 + k) :: rest)) := by
  subst hf
  have he := s_at G σ hk (by decide)
  rw [s_cl, s_cell, hk] at he
  exact va_get (D := G.1) (cl := vwCl) (C := RX0) (T := TX0) (N := 2) (ci := 0) C.1 C.2.1 C.2.2.2.1 inlX0 C.2.2.1 C.2.2.2.2.1 S.1 k he rfl 0 (by decide) ((C.2.2.2.1 _ hlink)) (fun _ h => h) rfl hdg kk
theorem gn_X0_0 (C : s_C G p s args m c own cc) (hlink : Cond.fieldLinkNest own idx "PhraseReader$Bytes" "codes" "[I" "PhraseReader" ∈ nestW) (hk : s_kd k = 0) (S : s_St G σ H0 H locs) {q : Nat} (hf : s_fin k 0 = q) (hdg : decode cc pc = .ok (.getfield idx, 3)) (kk : W p l e R s m args below meth c H locs cells slots Q (F0 m (pc + 3) ls (.ref (G.2.2 + q) :: rest))) : W p l e R s m args below meth c H locs cells slots Q (F0 m pc ls (.ref (G.2.2 + k) :: rest)) := by
  subst hf
  have he := s_at G σ hk (by decide)
  rw [s_cl, s_cell, hk] at he
  exact va_getN (D := G.1) (cl := vwCl) (C := RX0) (T := TX0) (N := 2) (ci := 0) C.1 C.2.1 C.2.2.2.1 inlX0 C.2.2.1 C.2.2.2.2.1 S.1 k he rfl 0 (by decide) (va_Nw.use (nest_on (nest_is _ hlink)) (C.2.2.2.2.2 _ hlink)) (fun _ h => h) rfl hdg kk
theorem g_X0_1 (C : s_C G p s args m c own cc) (hlink : Cond.fieldLink own idx "PhraseReader$Bytes" "length" "I" ∈ wL) (hk : s_kd k = 0) (S : s_St G σ H0 H locs) (hdg : decode cc pc = .ok (.getfield idx, 3)) (kk : W p l e R s m args below meth c H locs cells slots Q (F0 m (pc + 3) ls (.int (σ.1 k 1) :: rest))) : W p l e R s m args below meth c H locs cells slots Q (F0 m pc ls (.ref (G.2.2 + k) :: rest)) := by
  have he := s_at G σ hk (by decide)
  rw [s_cl, s_cell, hk] at he
  exact va_get (D := G.1) (cl := vwCl) (C := RX0) (T := TX0) (N := 2) (ci := 0) C.1 C.2.1 C.2.2.2.1 inlX0 C.2.2.1 C.2.2.2.2.1 S.1 k he rfl 1 (by decide) ((C.2.2.2.1 _ hlink)) (fun _ h => h) rfl hdg kk
theorem p_X0_1 (C : s_C G p s args m c own cc) (hlink : Cond.fieldLink own idx "PhraseReader$Bytes" "length" "I" ∈ wL) (hk : s_kd k = 0) (S : s_St G σ H0 H locs) {v : Int32} (hdg : decode cc pc = .ok (.putfield idx, 3)) (kk : ∀ (σ1 : Sg) (H1 : Heap) (locs1 : List Loc), σ1 = setI σ k 1 v → s_St G σ1 H0 H1 locs1 → W p l e R s m args below meth c H1 locs1 cells slots Q (F0 m (pc + 3) ls rest)) : W p l e R s m args below meth c H locs cells slots Q (F0 m pc ls (.int v :: .ref (G.2.2 + k) :: rest)) := by
  have he := s_at G σ hk (by decide)
  rw [s_cl, s_cell, hk] at he
  refine va_put (D := G.1) (cl := vwCl) (ty := .int) (C := RX0) (T := TX0) (N := 2) (ci := 0) C.1 C.2.1 C.2.2.2.1 inlX0 tyX0 tyX0_ok nmX0 C.2.2.1 C.2.2.2.2.1 S.1 (s_D G σ) S.2.1 k he rfl 1 (by decide) ((C.2.2.2.1 _ hlink)) (fun _ h => h) rfl (by decide +kernel) rfl rfl (Nat.le_of_ble_eq_true rfl) hdg (fun H1 locs1 hP _ hS => ?_)
  refine kk _ H1 locs1 rfl ⟨?_, hS, s_rokI S.2.2 k 1 v⟩
  rw [s_set (G := G) (σ := σ) (σ' := setI σ k 1 v) (s_kd_lt hk (by decide)) (fun q hq => by show s_cell G (upd2 σ.1 k 1 v q) _ _ q = _; rw [upd2_ne hq]; rfl) (by show s_cell G (upd2 σ.1 k 1 v k) _ _ k = _; rw [s_cell, hk]; simp [upd2, setI])] at hP
  exact hP
theorem gn_X0_1 (C : s_C G p s args m c own cc) (hlink : Cond.fieldLinkNest own idx "PhraseReader$Bytes" "length" "I" "PhraseReader" ∈ nestW) (hk : s_kd k = 0) (S : s_St G σ H0 H locs) (hdg : decode cc pc = .ok (.getfield idx, 3)) (kk : W p l e R s m args below meth c H locs cells slots Q (F0 m (pc + 3) ls (.int (σ.1 k 1) :: rest))) : W p l e R s m args below meth c H locs cells slots Q (F0 m pc ls (.ref (G.2.2 + k) :: rest)) := by
  have he := s_at G σ hk (by decide)
  rw [s_cl, s_cell, hk] at he
  exact va_getN (D := G.1) (cl := vwCl) (C := RX0) (T := TX0) (N := 2) (ci := 0) C.1 C.2.1 C.2.2.2.1 inlX0 C.2.2.1 C.2.2.2.2.1 S.1 k he rfl 1 (by decide) (va_Nw.use (nest_on (nest_is _ hlink)) (C.2.2.2.2.2 _ hlink)) (fun _ h => h) rfl hdg kk
theorem pn_X0_1 (C : s_C G p s args m c own cc) (hlink : Cond.fieldLinkNest own idx "PhraseReader$Bytes" "length" "I" "PhraseReader" ∈ nestW) (hk : s_kd k = 0) (S : s_St G σ H0 H locs) {v : Int32} (hdg : decode cc pc = .ok (.putfield idx, 3)) (kk : ∀ (σ1 : Sg) (H1 : Heap) (locs1 : List Loc), σ1 = setI σ k 1 v → s_St G σ1 H0 H1 locs1 → W p l e R s m args below meth c H1 locs1 cells slots Q (F0 m (pc + 3) ls rest)) : W p l e R s m args below meth c H locs cells slots Q (F0 m pc ls (.int v :: .ref (G.2.2 + k) :: rest)) := by
  have he := s_at G σ hk (by decide)
  rw [s_cl, s_cell, hk] at he
  refine va_putN (D := G.1) (cl := vwCl) (ty := .int) (C := RX0) (T := TX0) (N := 2) (ci := 0) C.1 C.2.1 C.2.2.2.1 inlX0 tyX0 tyX0_ok nmX0 C.2.2.1 C.2.2.2.2.1 S.1 (s_D G σ) S.2.1 k he rfl 1 (by decide) (va_Nw.use (nest_on (nest_is _ hlink)) (C.2.2.2.2.2 _ hlink)) (fun _ h => h) rfl (by decide +kernel) rfl rfl (Nat.le_of_ble_eq_true rfl) hdg (fun H1 locs1 hP _ hS => ?_)
  refine kk _ H1 locs1 rfl ⟨?_, hS, s_rokI S.2.2 k 1 v⟩
  rw [s_set (G := G) (σ := σ) (σ' := setI σ k 1 v) (s_kd_lt hk (by decide)) (fun q hq => by show s_cell G (upd2 σ.1 k 1 v q) _ _ q = _; rw [upd2_ne hq]; rfl) (by show s_cell G (upd2 σ.1 k 1 v k) _ _ k = _; rw [s_cell, hk]; simp [upd2, setI])] at hP
  exact hP
theorem g_X1_0 (C : s_C G p s args m c own cc) (hlink : Cond.fieldLink own idx "PhraseReader$Declarations" "members" "[LPhraseReader$Member;" ∈ wL) (hk : s_kd k = 1) (S : s_St G σ H0 H locs) {q : Nat} (hf : s_fin k 0 = q) (hdg : decode cc pc = .ok (.getfield idx, 3)) (kk : W p l e R s m args below meth c H locs cells slots Q (F0 m (pc + 3) ls (.ref (G.2.2 + q) :: rest))) : W p l e R s m args below meth c H locs cells slots Q (F0 m pc ls (.ref (G.2.2 + k) :: rest)) := by
  subst hf
  have he := s_at G σ hk (by decide)
  rw [s_cl, s_cell, hk] at he
  exact va_get (D := G.1) (cl := vwCl) (C := RX1) (T := TX1) (N := 4) (ci := 1) C.1 C.2.1 C.2.2.2.1 inlX1 C.2.2.1 C.2.2.2.2.1 S.1 k he rfl 0 (by decide) ((C.2.2.2.1 _ hlink)) (fun _ h => h) rfl hdg kk
theorem gn_X1_0 (C : s_C G p s args m c own cc) (hlink : Cond.fieldLinkNest own idx "PhraseReader$Declarations" "members" "[LPhraseReader$Member;" "PhraseReader" ∈ nestW) (hk : s_kd k = 1) (S : s_St G σ H0 H locs) {q : Nat} (hf : s_fin k 0 = q) (hdg : decode cc pc = .ok (.getfield idx, 3)) (kk : W p l e R s m args below meth c H locs cells slots Q (F0 m (pc + 3) ls (.ref (G.2.2 + q) :: rest))) : W p l e R s m args below meth c H locs cells slots Q (F0 m pc ls (.ref (G.2.2 + k) :: rest)) := by
  subst hf
  have he := s_at G σ hk (by decide)
  rw [s_cl, s_cell, hk] at he
  exact va_getN (D := G.1) (cl := vwCl) (C := RX1) (T := TX1) (N := 4) (ci := 1) C.1 C.2.1 C.2.2.2.1 inlX1 C.2.2.1 C.2.2.2.2.1 S.1 k he rfl 0 (by decide) (va_Nw.use (nest_on (nest_is _ hlink)) (C.2.2.2.2.2 _ hlink)) (fun _ h => h) rfl hdg kk
theorem g_X1_1 (C : s_C G p s args m c own cc) (hlink : Cond.fieldLink own idx "PhraseReader$Declarations" "nobody" "LPhraseReader$Member;" ∈ wL) (hk : s_kd k = 1) (S : s_St G σ H0 H locs) {q : Nat} (hf : s_fin k 1 = q) (hdg : decode cc pc = .ok (.getfield idx, 3)) (kk : W p l e R s m args below meth c H locs cells slots Q (F0 m (pc + 3) ls (.ref (G.2.2 + q) :: rest))) : W p l e R s m args below meth c H locs cells slots Q (F0 m pc ls (.ref (G.2.2 + k) :: rest)) := by
  subst hf
  have he := s_at G σ hk (by decide)
  rw [s_cl, s_cell, hk] at he
  exact va_get (D := G.1) (cl := vwCl) (C := RX1) (T := TX1) (N := 4) (ci := 1) C.1 C.2.1 C.2.2.2.1 inlX1 C.2.2.1 C.2.2.2.2.1 S.1 k he rfl 1 (by decide) ((C.2.2.2.1 _ hlink)) (fun _ h => h) rfl hdg kk
theorem gn_X1_1 (C : s_C G p s args m c own cc) (hlink : Cond.fieldLinkNest own idx "PhraseReader$Declarations" "nobody" "LPhraseReader$Member;" "PhraseReader" ∈ nestW) (hk : s_kd k = 1) (S : s_St G σ H0 H locs) {q : Nat} (hf : s_fin k 1 = q) (hdg : decode cc pc = .ok (.getfield idx, 3)) (kk : W p l e R s m args below meth c H locs cells slots Q (F0 m (pc + 3) ls (.ref (G.2.2 + q) :: rest))) : W p l e R s m args below meth c H locs cells slots Q (F0 m pc ls (.ref (G.2.2 + k) :: rest)) := by
  subst hf
  have he := s_at G σ hk (by decide)
  rw [s_cl, s_cell, hk] at he
  exact va_getN (D := G.1) (cl := vwCl) (C := RX1) (T := TX1) (N := 4) (ci := 1) C.1 C.2.1 C.2.2.2.1 inlX1 C.2.2.1 C.2.2.2.2.1 S.1 k he rfl 1 (by decide) (va_Nw.use (nest_on (nest_is _ hlink)) (C.2.2.2.2.2 _ hlink)) (fun _ h => h) rfl hdg kk
theorem g_X1_2 (C : s_C G p s args m c own cc) (hlink : Cond.fieldLink own idx "PhraseReader$Declarations" "count" "I" ∈ wL) (hk : s_kd k = 1) (S : s_St G σ H0 H locs) (hdg : decode cc pc = .ok (.getfield idx, 3)) (kk : W p l e R s m args below meth c H locs cells slots Q (F0 m (pc + 3) ls (.int (σ.1 k 2) :: rest))) : W p l e R s m args below meth c H locs cells slots Q (F0 m pc ls (.ref (G.2.2 + k) :: rest)) := by
  have he := s_at G σ hk (by decide)
  rw [s_cl, s_cell, hk] at he
  exact va_get (D := G.1) (cl := vwCl) (C := RX1) (T := TX1) (N := 4) (ci := 1) C.1 C.2.1 C.2.2.2.1 inlX1 C.2.2.1 C.2.2.2.2.1 S.1 k he rfl 2 (by decide) ((C.2.2.2.1 _ hlink)) (fun _ h => h) rfl hdg kk
theorem p_X1_2 (C : s_C G p s args m c own cc) (hlink : Cond.fieldLink own idx "PhraseReader$Declarations" "count" "I" ∈ wL) (hk : s_kd k = 1) (S : s_St G σ H0 H locs) {v : Int32} (hdg : decode cc pc = .ok (.putfield idx, 3)) (kk : ∀ (σ1 : Sg) (H1 : Heap) (locs1 : List Loc), σ1 = setI σ k 2 v → s_St G σ1 H0 H1 locs1 → W p l e R s m args below meth c H1 locs1 cells slots Q (F0 m (pc + 3) ls rest)) : W p l e R s m args below meth c H locs cells slots Q (F0 m pc ls (.int v :: .ref (G.2.2 + k) :: rest)) := by
  have he := s_at G σ hk (by decide)
  rw [s_cl, s_cell, hk] at he
  refine va_put (D := G.1) (cl := vwCl) (ty := .int) (C := RX1) (T := TX1) (N := 4) (ci := 1) C.1 C.2.1 C.2.2.2.1 inlX1 tyX1 tyX1_ok nmX1 C.2.2.1 C.2.2.2.2.1 S.1 (s_D G σ) S.2.1 k he rfl 2 (by decide) ((C.2.2.2.1 _ hlink)) (fun _ h => h) rfl (by decide +kernel) rfl rfl (Nat.le_of_ble_eq_true rfl) hdg (fun H1 locs1 hP _ hS => ?_)
  refine kk _ H1 locs1 rfl ⟨?_, hS, s_rokI S.2.2 k 2 v⟩
  rw [s_set (G := G) (σ := σ) (σ' := setI σ k 2 v) (s_kd_lt hk (by decide)) (fun q hq => by show s_cell G (upd2 σ.1 k 2 v q) _ _ q = _; rw [upd2_ne hq]; rfl) (by show s_cell G (upd2 σ.1 k 2 v k) _ _ k = _; rw [s_cell, hk]; simp [upd2, setI])] at hP
  exact hP
theorem gn_X1_2 (C : s_C G p s args m c own cc) (hlink : Cond.fieldLinkNest own idx "PhraseReader$Declarations" "count" "I" "PhraseReader" ∈ nestW) (hk : s_kd k = 1) (S : s_St G σ H0 H locs) (hdg : decode cc pc = .ok (.getfield idx, 3)) (kk : W p l e R s m args below meth c H locs cells slots Q (F0 m (pc + 3) ls (.int (σ.1 k 2) :: rest))) : W p l e R s m args below meth c H locs cells slots Q (F0 m pc ls (.ref (G.2.2 + k) :: rest)) := by
  have he := s_at G σ hk (by decide)
  rw [s_cl, s_cell, hk] at he
  exact va_getN (D := G.1) (cl := vwCl) (C := RX1) (T := TX1) (N := 4) (ci := 1) C.1 C.2.1 C.2.2.2.1 inlX1 C.2.2.1 C.2.2.2.2.1 S.1 k he rfl 2 (by decide) (va_Nw.use (nest_on (nest_is _ hlink)) (C.2.2.2.2.2 _ hlink)) (fun _ h => h) rfl hdg kk
theorem pn_X1_2 (C : s_C G p s args m c own cc) (hlink : Cond.fieldLinkNest own idx "PhraseReader$Declarations" "count" "I" "PhraseReader" ∈ nestW) (hk : s_kd k = 1) (S : s_St G σ H0 H locs) {v : Int32} (hdg : decode cc pc = .ok (.putfield idx, 3)) (kk : ∀ (σ1 : Sg) (H1 : Heap) (locs1 : List Loc), σ1 = setI σ k 2 v → s_St G σ1 H0 H1 locs1 → W p l e R s m args below meth c H1 locs1 cells slots Q (F0 m (pc + 3) ls rest)) : W p l e R s m args below meth c H locs cells slots Q (F0 m pc ls (.int v :: .ref (G.2.2 + k) :: rest)) := by
  have he := s_at G σ hk (by decide)
  rw [s_cl, s_cell, hk] at he
  refine va_putN (D := G.1) (cl := vwCl) (ty := .int) (C := RX1) (T := TX1) (N := 4) (ci := 1) C.1 C.2.1 C.2.2.2.1 inlX1 tyX1 tyX1_ok nmX1 C.2.2.1 C.2.2.2.2.1 S.1 (s_D G σ) S.2.1 k he rfl 2 (by decide) (va_Nw.use (nest_on (nest_is _ hlink)) (C.2.2.2.2.2 _ hlink)) (fun _ h => h) rfl (by decide +kernel) rfl rfl (Nat.le_of_ble_eq_true rfl) hdg (fun H1 locs1 hP _ hS => ?_)
  refine kk _ H1 locs1 rfl ⟨?_, hS, s_rokI S.2.2 k 2 v⟩
  rw [s_set (G := G) (σ := σ) (σ' := setI σ k 2 v) (s_kd_lt hk (by decide)) (fun q hq => by show s_cell G (upd2 σ.1 k 2 v q) _ _ q = _; rw [upd2_ne hq]; rfl) (by show s_cell G (upd2 σ.1 k 2 v k) _ _ k = _; rw [s_cell, hk]; simp [upd2, setI])] at hP
  exact hP
theorem g_X1_3 (C : s_C G p s args m c own cc) (hlink : Cond.fieldLink own idx "PhraseReader$Declarations" "separator" "I" ∈ wL) (hk : s_kd k = 1) (S : s_St G σ H0 H locs) (hdg : decode cc pc = .ok (.getfield idx, 3)) (kk : W p l e R s m args below meth c H locs cells slots Q (F0 m (pc + 3) ls (.int (σ.1 k 3) :: rest))) : W p l e R s m args below meth c H locs cells slots Q (F0 m pc ls (.ref (G.2.2 + k) :: rest)) := by
  have he := s_at G σ hk (by decide)
  rw [s_cl, s_cell, hk] at he
  exact va_get (D := G.1) (cl := vwCl) (C := RX1) (T := TX1) (N := 4) (ci := 1) C.1 C.2.1 C.2.2.2.1 inlX1 C.2.2.1 C.2.2.2.2.1 S.1 k he rfl 3 (by decide) ((C.2.2.2.1 _ hlink)) (fun _ h => h) rfl hdg kk
theorem p_X1_3 (C : s_C G p s args m c own cc) (hlink : Cond.fieldLink own idx "PhraseReader$Declarations" "separator" "I" ∈ wL) (hk : s_kd k = 1) (S : s_St G σ H0 H locs) {v : Int32} (hdg : decode cc pc = .ok (.putfield idx, 3)) (kk : ∀ (σ1 : Sg) (H1 : Heap) (locs1 : List Loc), σ1 = setI σ k 3 v → s_St G σ1 H0 H1 locs1 → W p l e R s m args below meth c H1 locs1 cells slots Q (F0 m (pc + 3) ls rest)) : W p l e R s m args below meth c H locs cells slots Q (F0 m pc ls (.int v :: .ref (G.2.2 + k) :: rest)) := by
  have he := s_at G σ hk (by decide)
  rw [s_cl, s_cell, hk] at he
  refine va_put (D := G.1) (cl := vwCl) (ty := .int) (C := RX1) (T := TX1) (N := 4) (ci := 1) C.1 C.2.1 C.2.2.2.1 inlX1 tyX1 tyX1_ok nmX1 C.2.2.1 C.2.2.2.2.1 S.1 (s_D G σ) S.2.1 k he rfl 3 (by decide) ((C.2.2.2.1 _ hlink)) (fun _ h => h) rfl (by decide +kernel) rfl rfl (Nat.le_of_ble_eq_true rfl) hdg (fun H1 locs1 hP _ hS => ?_)
  refine kk _ H1 locs1 rfl ⟨?_, hS, s_rokI S.2.2 k 3 v⟩
  rw [s_set (G := G) (σ := σ) (σ' := setI σ k 3 v) (s_kd_lt hk (by decide)) (fun q hq => by show s_cell G (upd2 σ.1 k 3 v q) _ _ q = _; rw [upd2_ne hq]; rfl) (by show s_cell G (upd2 σ.1 k 3 v k) _ _ k = _; rw [s_cell, hk]; simp [upd2, setI])] at hP
  exact hP
theorem gn_X1_3 (C : s_C G p s args m c own cc) (hlink : Cond.fieldLinkNest own idx "PhraseReader$Declarations" "separator" "I" "PhraseReader" ∈ nestW) (hk : s_kd k = 1) (S : s_St G σ H0 H locs) (hdg : decode cc pc = .ok (.getfield idx, 3)) (kk : W p l e R s m args below meth c H locs cells slots Q (F0 m (pc + 3) ls (.int (σ.1 k 3) :: rest))) : W p l e R s m args below meth c H locs cells slots Q (F0 m pc ls (.ref (G.2.2 + k) :: rest)) := by
  have he := s_at G σ hk (by decide)
  rw [s_cl, s_cell, hk] at he
  exact va_getN (D := G.1) (cl := vwCl) (C := RX1) (T := TX1) (N := 4) (ci := 1) C.1 C.2.1 C.2.2.2.1 inlX1 C.2.2.1 C.2.2.2.2.1 S.1 k he rfl 3 (by decide) (va_Nw.use (nest_on (nest_is _ hlink)) (C.2.2.2.2.2 _ hlink)) (fun _ h => h) rfl hdg kk
theorem pn_X1_3 (C : s_C G p s args m c own cc) (hlink : Cond.fieldLinkNest own idx "PhraseReader$Declarations" "separator" "I" "PhraseReader" ∈ nestW) (hk : s_kd k = 1) (S : s_St G σ H0 H locs) {v : Int32} (hdg : decode cc pc = .ok (.putfield idx, 3)) (kk : ∀ (σ1 : Sg) (H1 : Heap) (locs1 : List Loc), σ1 = setI σ k 3 v → s_St G σ1 H0 H1 locs1 → W p l e R s m args below meth c H1 locs1 cells slots Q (F0 m (pc + 3) ls rest)) : W p l e R s m args below meth c H locs cells slots Q (F0 m pc ls (.int v :: .ref (G.2.2 + k) :: rest)) := by
  have he := s_at G σ hk (by decide)
  rw [s_cl, s_cell, hk] at he
  refine va_putN (D := G.1) (cl := vwCl) (ty := .int) (C := RX1) (T := TX1) (N := 4) (ci := 1) C.1 C.2.1 C.2.2.2.1 inlX1 tyX1 tyX1_ok nmX1 C.2.2.1 C.2.2.2.2.1 S.1 (s_D G σ) S.2.1 k he rfl 3 (by decide) (va_Nw.use (nest_on (nest_is _ hlink)) (C.2.2.2.2.2 _ hlink)) (fun _ h => h) rfl (by decide +kernel) rfl rfl (Nat.le_of_ble_eq_true rfl) hdg (fun H1 locs1 hP _ hS => ?_)
  refine kk _ H1 locs1 rfl ⟨?_, hS, s_rokI S.2.2 k 3 v⟩
  rw [s_set (G := G) (σ := σ) (σ' := setI σ k 3 v) (s_kd_lt hk (by decide)) (fun q hq => by show s_cell G (upd2 σ.1 k 3 v q) _ _ q = _; rw [upd2_ne hq]; rfl) (by show s_cell G (upd2 σ.1 k 3 v k) _ _ k = _; rw [s_cell, hk]; simp [upd2, setI])] at hP
  exact hP
theorem g_X2_0 (C : s_C G p s args m c own cc) (hlink : Cond.fieldLink own idx "PhraseReader$History" "states" "[LPhraseReader$Declarations;" ∈ wL) (hk : s_kd k = 2) (S : s_St G σ H0 H locs) {q : Nat} (hf : s_fin k 0 = q) (hdg : decode cc pc = .ok (.getfield idx, 3)) (kk : W p l e R s m args below meth c H locs cells slots Q (F0 m (pc + 3) ls (.ref (G.2.2 + q) :: rest))) : W p l e R s m args below meth c H locs cells slots Q (F0 m pc ls (.ref (G.2.2 + k) :: rest)) := by
  subst hf
  have he := s_at G σ hk (by decide)
  rw [s_cl, s_cell, hk] at he
  exact va_get (D := G.1) (cl := vwCl) (C := RX2) (T := TX2) (N := 2) (ci := 2) C.1 C.2.1 C.2.2.2.1 inlX2 C.2.2.1 C.2.2.2.2.1 S.1 k he rfl 0 (by decide) ((C.2.2.2.1 _ hlink)) (fun _ h => h) rfl hdg kk
theorem gn_X2_0 (C : s_C G p s args m c own cc) (hlink : Cond.fieldLinkNest own idx "PhraseReader$History" "states" "[LPhraseReader$Declarations;" "PhraseReader" ∈ nestW) (hk : s_kd k = 2) (S : s_St G σ H0 H locs) {q : Nat} (hf : s_fin k 0 = q) (hdg : decode cc pc = .ok (.getfield idx, 3)) (kk : W p l e R s m args below meth c H locs cells slots Q (F0 m (pc + 3) ls (.ref (G.2.2 + q) :: rest))) : W p l e R s m args below meth c H locs cells slots Q (F0 m pc ls (.ref (G.2.2 + k) :: rest)) := by
  subst hf
  have he := s_at G σ hk (by decide)
  rw [s_cl, s_cell, hk] at he
  exact va_getN (D := G.1) (cl := vwCl) (C := RX2) (T := TX2) (N := 2) (ci := 2) C.1 C.2.1 C.2.2.2.1 inlX2 C.2.2.1 C.2.2.2.2.1 S.1 k he rfl 0 (by decide) (va_Nw.use (nest_on (nest_is _ hlink)) (C.2.2.2.2.2 _ hlink)) (fun _ h => h) rfl hdg kk
theorem g_X2_1 (C : s_C G p s args m c own cc) (hlink : Cond.fieldLink own idx "PhraseReader$History" "count" "I" ∈ wL) (hk : s_kd k = 2) (S : s_St G σ H0 H locs) (hdg : decode cc pc = .ok (.getfield idx, 3)) (kk : W p l e R s m args below meth c H locs cells slots Q (F0 m (pc + 3) ls (.int (σ.1 k 1) :: rest))) : W p l e R s m args below meth c H locs cells slots Q (F0 m pc ls (.ref (G.2.2 + k) :: rest)) := by
  have he := s_at G σ hk (by decide)
  rw [s_cl, s_cell, hk] at he
  exact va_get (D := G.1) (cl := vwCl) (C := RX2) (T := TX2) (N := 2) (ci := 2) C.1 C.2.1 C.2.2.2.1 inlX2 C.2.2.1 C.2.2.2.2.1 S.1 k he rfl 1 (by decide) ((C.2.2.2.1 _ hlink)) (fun _ h => h) rfl hdg kk
theorem p_X2_1 (C : s_C G p s args m c own cc) (hlink : Cond.fieldLink own idx "PhraseReader$History" "count" "I" ∈ wL) (hk : s_kd k = 2) (S : s_St G σ H0 H locs) {v : Int32} (hdg : decode cc pc = .ok (.putfield idx, 3)) (kk : ∀ (σ1 : Sg) (H1 : Heap) (locs1 : List Loc), σ1 = setI σ k 1 v → s_St G σ1 H0 H1 locs1 → W p l e R s m args below meth c H1 locs1 cells slots Q (F0 m (pc + 3) ls rest)) : W p l e R s m args below meth c H locs cells slots Q (F0 m pc ls (.int v :: .ref (G.2.2 + k) :: rest)) := by
  have he := s_at G σ hk (by decide)
  rw [s_cl, s_cell, hk] at he
  refine va_put (D := G.1) (cl := vwCl) (ty := .int) (C := RX2) (T := TX2) (N := 2) (ci := 2) C.1 C.2.1 C.2.2.2.1 inlX2 tyX2 tyX2_ok nmX2 C.2.2.1 C.2.2.2.2.1 S.1 (s_D G σ) S.2.1 k he rfl 1 (by decide) ((C.2.2.2.1 _ hlink)) (fun _ h => h) rfl (by decide +kernel) rfl rfl (Nat.le_of_ble_eq_true rfl) hdg (fun H1 locs1 hP _ hS => ?_)
  refine kk _ H1 locs1 rfl ⟨?_, hS, s_rokI S.2.2 k 1 v⟩
  rw [s_set (G := G) (σ := σ) (σ' := setI σ k 1 v) (s_kd_lt hk (by decide)) (fun q hq => by show s_cell G (upd2 σ.1 k 1 v q) _ _ q = _; rw [upd2_ne hq]; rfl) (by show s_cell G (upd2 σ.1 k 1 v k) _ _ k = _; rw [s_cell, hk]; simp [upd2, setI])] at hP
  exact hP
theorem gn_X2_1 (C : s_C G p s args m c own cc) (hlink : Cond.fieldLinkNest own idx "PhraseReader$History" "count" "I" "PhraseReader" ∈ nestW) (hk : s_kd k = 2) (S : s_St G σ H0 H locs) (hdg : decode cc pc = .ok (.getfield idx, 3)) (kk : W p l e R s m args below meth c H locs cells slots Q (F0 m (pc + 3) ls (.int (σ.1 k 1) :: rest))) : W p l e R s m args below meth c H locs cells slots Q (F0 m pc ls (.ref (G.2.2 + k) :: rest)) := by
  have he := s_at G σ hk (by decide)
  rw [s_cl, s_cell, hk] at he
  exact va_getN (D := G.1) (cl := vwCl) (C := RX2) (T := TX2) (N := 2) (ci := 2) C.1 C.2.1 C.2.2.2.1 inlX2 C.2.2.1 C.2.2.2.2.1 S.1 k he rfl 1 (by decide) (va_Nw.use (nest_on (nest_is _ hlink)) (C.2.2.2.2.2 _ hlink)) (fun _ h => h) rfl hdg kk
theorem pn_X2_1 (C : s_C G p s args m c own cc) (hlink : Cond.fieldLinkNest own idx "PhraseReader$History" "count" "I" "PhraseReader" ∈ nestW) (hk : s_kd k = 2) (S : s_St G σ H0 H locs) {v : Int32} (hdg : decode cc pc = .ok (.putfield idx, 3)) (kk : ∀ (σ1 : Sg) (H1 : Heap) (locs1 : List Loc), σ1 = setI σ k 1 v → s_St G σ1 H0 H1 locs1 → W p l e R s m args below meth c H1 locs1 cells slots Q (F0 m (pc + 3) ls rest)) : W p l e R s m args below meth c H locs cells slots Q (F0 m pc ls (.int v :: .ref (G.2.2 + k) :: rest)) := by
  have he := s_at G σ hk (by decide)
  rw [s_cl, s_cell, hk] at he
  refine va_putN (D := G.1) (cl := vwCl) (ty := .int) (C := RX2) (T := TX2) (N := 2) (ci := 2) C.1 C.2.1 C.2.2.2.1 inlX2 tyX2 tyX2_ok nmX2 C.2.2.1 C.2.2.2.2.1 S.1 (s_D G σ) S.2.1 k he rfl 1 (by decide) (va_Nw.use (nest_on (nest_is _ hlink)) (C.2.2.2.2.2 _ hlink)) (fun _ h => h) rfl (by decide +kernel) rfl rfl (Nat.le_of_ble_eq_true rfl) hdg (fun H1 locs1 hP _ hS => ?_)
  refine kk _ H1 locs1 rfl ⟨?_, hS, s_rokI S.2.2 k 1 v⟩
  rw [s_set (G := G) (σ := σ) (σ' := setI σ k 1 v) (s_kd_lt hk (by decide)) (fun q hq => by show s_cell G (upd2 σ.1 k 1 v q) _ _ q = _; rw [upd2_ne hq]; rfl) (by show s_cell G (upd2 σ.1 k 1 v k) _ _ k = _; rw [s_cell, hk]; simp [upd2, setI])] at hP
  exact hP
theorem g_X3_0 (C : s_C G p s args m c own cc) (hlink : Cond.fieldLink own idx "PhraseReader$Member" "word" "I" ∈ wL) (hk : s_kd k = 3) (S : s_St G σ H0 H locs) (hdg : decode cc pc = .ok (.getfield idx, 3)) (kk : W p l e R s m args below meth c H locs cells slots Q (F0 m (pc + 3) ls (.int (σ.1 k 0) :: rest))) : W p l e R s m args below meth c H locs cells slots Q (F0 m pc ls (.ref (G.2.2 + k) :: rest)) := by
  have he := s_at G σ hk (by decide)
  rw [s_cl, s_cell, hk] at he
  exact va_get (D := G.1) (cl := vwCl) (C := RX3) (T := TX3) (N := 6) (ci := 3) C.1 C.2.1 C.2.2.2.1 inlX3 C.2.2.1 C.2.2.2.2.1 S.1 k he rfl 0 (by decide) ((C.2.2.2.1 _ hlink)) (fun _ h => h) rfl hdg kk
theorem p_X3_0 (C : s_C G p s args m c own cc) (hlink : Cond.fieldLink own idx "PhraseReader$Member" "word" "I" ∈ wL) (hk : s_kd k = 3) (S : s_St G σ H0 H locs) {v : Int32} (hdg : decode cc pc = .ok (.putfield idx, 3)) (kk : ∀ (σ1 : Sg) (H1 : Heap) (locs1 : List Loc), σ1 = setI σ k 0 v → s_St G σ1 H0 H1 locs1 → W p l e R s m args below meth c H1 locs1 cells slots Q (F0 m (pc + 3) ls rest)) : W p l e R s m args below meth c H locs cells slots Q (F0 m pc ls (.int v :: .ref (G.2.2 + k) :: rest)) := by
  have he := s_at G σ hk (by decide)
  rw [s_cl, s_cell, hk] at he
  refine va_put (D := G.1) (cl := vwCl) (ty := .int) (C := RX3) (T := TX3) (N := 6) (ci := 3) C.1 C.2.1 C.2.2.2.1 inlX3 tyX3 tyX3_ok nmX3 C.2.2.1 C.2.2.2.2.1 S.1 (s_D G σ) S.2.1 k he rfl 0 (by decide) ((C.2.2.2.1 _ hlink)) (fun _ h => h) rfl (by decide +kernel) rfl rfl (Nat.le_of_ble_eq_true rfl) hdg (fun H1 locs1 hP _ hS => ?_)
  refine kk _ H1 locs1 rfl ⟨?_, hS, s_rokI S.2.2 k 0 v⟩
  rw [s_set (G := G) (σ := σ) (σ' := setI σ k 0 v) (s_kd_lt hk (by decide)) (fun q hq => by show s_cell G (upd2 σ.1 k 0 v q) _ _ q = _; rw [upd2_ne hq]; rfl) (by show s_cell G (upd2 σ.1 k 0 v k) _ _ k = _; rw [s_cell, hk]; simp [upd2, setI])] at hP
  exact hP
theorem gn_X3_0 (C : s_C G p s args m c own cc) (hlink : Cond.fieldLinkNest own idx "PhraseReader$Member" "word" "I" "PhraseReader" ∈ nestW) (hk : s_kd k = 3) (S : s_St G σ H0 H locs) (hdg : decode cc pc = .ok (.getfield idx, 3)) (kk : W p l e R s m args below meth c H locs cells slots Q (F0 m (pc + 3) ls (.int (σ.1 k 0) :: rest))) : W p l e R s m args below meth c H locs cells slots Q (F0 m pc ls (.ref (G.2.2 + k) :: rest)) := by
  have he := s_at G σ hk (by decide)
  rw [s_cl, s_cell, hk] at he
  exact va_getN (D := G.1) (cl := vwCl) (C := RX3) (T := TX3) (N := 6) (ci := 3) C.1 C.2.1 C.2.2.2.1 inlX3 C.2.2.1 C.2.2.2.2.1 S.1 k he rfl 0 (by decide) (va_Nw.use (nest_on (nest_is _ hlink)) (C.2.2.2.2.2 _ hlink)) (fun _ h => h) rfl hdg kk
theorem pn_X3_0 (C : s_C G p s args m c own cc) (hlink : Cond.fieldLinkNest own idx "PhraseReader$Member" "word" "I" "PhraseReader" ∈ nestW) (hk : s_kd k = 3) (S : s_St G σ H0 H locs) {v : Int32} (hdg : decode cc pc = .ok (.putfield idx, 3)) (kk : ∀ (σ1 : Sg) (H1 : Heap) (locs1 : List Loc), σ1 = setI σ k 0 v → s_St G σ1 H0 H1 locs1 → W p l e R s m args below meth c H1 locs1 cells slots Q (F0 m (pc + 3) ls rest)) : W p l e R s m args below meth c H locs cells slots Q (F0 m pc ls (.int v :: .ref (G.2.2 + k) :: rest)) := by
  have he := s_at G σ hk (by decide)
  rw [s_cl, s_cell, hk] at he
  refine va_putN (D := G.1) (cl := vwCl) (ty := .int) (C := RX3) (T := TX3) (N := 6) (ci := 3) C.1 C.2.1 C.2.2.2.1 inlX3 tyX3 tyX3_ok nmX3 C.2.2.1 C.2.2.2.2.1 S.1 (s_D G σ) S.2.1 k he rfl 0 (by decide) (va_Nw.use (nest_on (nest_is _ hlink)) (C.2.2.2.2.2 _ hlink)) (fun _ h => h) rfl (by decide +kernel) rfl rfl (Nat.le_of_ble_eq_true rfl) hdg (fun H1 locs1 hP _ hS => ?_)
  refine kk _ H1 locs1 rfl ⟨?_, hS, s_rokI S.2.2 k 0 v⟩
  rw [s_set (G := G) (σ := σ) (σ' := setI σ k 0 v) (s_kd_lt hk (by decide)) (fun q hq => by show s_cell G (upd2 σ.1 k 0 v q) _ _ q = _; rw [upd2_ne hq]; rfl) (by show s_cell G (upd2 σ.1 k 0 v k) _ _ k = _; rw [s_cell, hk]; simp [upd2, setI])] at hP
  exact hP
theorem g_X3_1 (C : s_C G p s args m c own cc) (hlink : Cond.fieldLink own idx "PhraseReader$Member" "kind" "I" ∈ wL) (hk : s_kd k = 3) (S : s_St G σ H0 H locs) (hdg : decode cc pc = .ok (.getfield idx, 3)) (kk : W p l e R s m args below meth c H locs cells slots Q (F0 m (pc + 3) ls (.int (σ.1 k 1) :: rest))) : W p l e R s m args below meth c H locs cells slots Q (F0 m pc ls (.ref (G.2.2 + k) :: rest)) := by
  have he := s_at G σ hk (by decide)
  rw [s_cl, s_cell, hk] at he
  exact va_get (D := G.1) (cl := vwCl) (C := RX3) (T := TX3) (N := 6) (ci := 3) C.1 C.2.1 C.2.2.2.1 inlX3 C.2.2.1 C.2.2.2.2.1 S.1 k he rfl 1 (by decide) ((C.2.2.2.1 _ hlink)) (fun _ h => h) rfl hdg kk
theorem p_X3_1 (C : s_C G p s args m c own cc) (hlink : Cond.fieldLink own idx "PhraseReader$Member" "kind" "I" ∈ wL) (hk : s_kd k = 3) (S : s_St G σ H0 H locs) {v : Int32} (hdg : decode cc pc = .ok (.putfield idx, 3)) (kk : ∀ (σ1 : Sg) (H1 : Heap) (locs1 : List Loc), σ1 = setI σ k 1 v → s_St G σ1 H0 H1 locs1 → W p l e R s m args below meth c H1 locs1 cells slots Q (F0 m (pc + 3) ls rest)) : W p l e R s m args below meth c H locs cells slots Q (F0 m pc ls (.int v :: .ref (G.2.2 + k) :: rest)) := by
  have he := s_at G σ hk (by decide)
  rw [s_cl, s_cell, hk] at he
  refine va_put (D := G.1) (cl := vwCl) (ty := .int) (C := RX3) (T := TX3) (N := 6) (ci := 3) C.1 C.2.1 C.2.2.2.1 inlX3 tyX3 tyX3_ok nmX3 C.2.2.1 C.2.2.2.2.1 S.1 (s_D G σ) S.2.1 k he rfl 1 (by decide) ((C.2.2.2.1 _ hlink)) (fun _ h => h) rfl (by decide +kernel) rfl rfl (Nat.le_of_ble_eq_true rfl) hdg (fun H1 locs1 hP _ hS => ?_)
  refine kk _ H1 locs1 rfl ⟨?_, hS, s_rokI S.2.2 k 1 v⟩
  rw [s_set (G := G) (σ := σ) (σ' := setI σ k 1 v) (s_kd_lt hk (by decide)) (fun q hq => by show s_cell G (upd2 σ.1 k 1 v q) _ _ q = _; rw [upd2_ne hq]; rfl) (by show s_cell G (upd2 σ.1 k 1 v k) _ _ k = _; rw [s_cell, hk]; simp [upd2, setI])] at hP
  exact hP
theorem gn_X3_1 (C : s_C G p s args m c own cc) (hlink : Cond.fieldLinkNest own idx "PhraseReader$Member" "kind" "I" "PhraseReader" ∈ nestW) (hk : s_kd k = 3) (S : s_St G σ H0 H locs) (hdg : decode cc pc = .ok (.getfield idx, 3)) (kk : W p l e R s m args below meth c H locs cells slots Q (F0 m (pc + 3) ls (.int (σ.1 k 1) :: rest))) : W p l e R s m args below meth c H locs cells slots Q (F0 m pc ls (.ref (G.2.2 + k) :: rest)) := by
  have he := s_at G σ hk (by decide)
  rw [s_cl, s_cell, hk] at he
  exact va_getN (D := G.1) (cl := vwCl) (C := RX3) (T := TX3) (N := 6) (ci := 3) C.1 C.2.1 C.2.2.2.1 inlX3 C.2.2.1 C.2.2.2.2.1 S.1 k he rfl 1 (by decide) (va_Nw.use (nest_on (nest_is _ hlink)) (C.2.2.2.2.2 _ hlink)) (fun _ h => h) rfl hdg kk
theorem pn_X3_1 (C : s_C G p s args m c own cc) (hlink : Cond.fieldLinkNest own idx "PhraseReader$Member" "kind" "I" "PhraseReader" ∈ nestW) (hk : s_kd k = 3) (S : s_St G σ H0 H locs) {v : Int32} (hdg : decode cc pc = .ok (.putfield idx, 3)) (kk : ∀ (σ1 : Sg) (H1 : Heap) (locs1 : List Loc), σ1 = setI σ k 1 v → s_St G σ1 H0 H1 locs1 → W p l e R s m args below meth c H1 locs1 cells slots Q (F0 m (pc + 3) ls rest)) : W p l e R s m args below meth c H locs cells slots Q (F0 m pc ls (.int v :: .ref (G.2.2 + k) :: rest)) := by
  have he := s_at G σ hk (by decide)
  rw [s_cl, s_cell, hk] at he
  refine va_putN (D := G.1) (cl := vwCl) (ty := .int) (C := RX3) (T := TX3) (N := 6) (ci := 3) C.1 C.2.1 C.2.2.2.1 inlX3 tyX3 tyX3_ok nmX3 C.2.2.1 C.2.2.2.2.1 S.1 (s_D G σ) S.2.1 k he rfl 1 (by decide) (va_Nw.use (nest_on (nest_is _ hlink)) (C.2.2.2.2.2 _ hlink)) (fun _ h => h) rfl (by decide +kernel) rfl rfl (Nat.le_of_ble_eq_true rfl) hdg (fun H1 locs1 hP _ hS => ?_)
  refine kk _ H1 locs1 rfl ⟨?_, hS, s_rokI S.2.2 k 1 v⟩
  rw [s_set (G := G) (σ := σ) (σ' := setI σ k 1 v) (s_kd_lt hk (by decide)) (fun q hq => by show s_cell G (upd2 σ.1 k 1 v q) _ _ q = _; rw [upd2_ne hq]; rfl) (by show s_cell G (upd2 σ.1 k 1 v k) _ _ k = _; rw [s_cell, hk]; simp [upd2, setI])] at hP
  exact hP
theorem g_X3_2 (C : s_C G p s args m c own cc) (hlink : Cond.fieldLink own idx "PhraseReader$Member" "least" "I" ∈ wL) (hk : s_kd k = 3) (S : s_St G σ H0 H locs) (hdg : decode cc pc = .ok (.getfield idx, 3)) (kk : W p l e R s m args below meth c H locs cells slots Q (F0 m (pc + 3) ls (.int (σ.1 k 2) :: rest))) : W p l e R s m args below meth c H locs cells slots Q (F0 m pc ls (.ref (G.2.2 + k) :: rest)) := by
  have he := s_at G σ hk (by decide)
  rw [s_cl, s_cell, hk] at he
  exact va_get (D := G.1) (cl := vwCl) (C := RX3) (T := TX3) (N := 6) (ci := 3) C.1 C.2.1 C.2.2.2.1 inlX3 C.2.2.1 C.2.2.2.2.1 S.1 k he rfl 2 (by decide) ((C.2.2.2.1 _ hlink)) (fun _ h => h) rfl hdg kk
theorem p_X3_2 (C : s_C G p s args m c own cc) (hlink : Cond.fieldLink own idx "PhraseReader$Member" "least" "I" ∈ wL) (hk : s_kd k = 3) (S : s_St G σ H0 H locs) {v : Int32} (hdg : decode cc pc = .ok (.putfield idx, 3)) (kk : ∀ (σ1 : Sg) (H1 : Heap) (locs1 : List Loc), σ1 = setI σ k 2 v → s_St G σ1 H0 H1 locs1 → W p l e R s m args below meth c H1 locs1 cells slots Q (F0 m (pc + 3) ls rest)) : W p l e R s m args below meth c H locs cells slots Q (F0 m pc ls (.int v :: .ref (G.2.2 + k) :: rest)) := by
  have he := s_at G σ hk (by decide)
  rw [s_cl, s_cell, hk] at he
  refine va_put (D := G.1) (cl := vwCl) (ty := .int) (C := RX3) (T := TX3) (N := 6) (ci := 3) C.1 C.2.1 C.2.2.2.1 inlX3 tyX3 tyX3_ok nmX3 C.2.2.1 C.2.2.2.2.1 S.1 (s_D G σ) S.2.1 k he rfl 2 (by decide) ((C.2.2.2.1 _ hlink)) (fun _ h => h) rfl (by decide +kernel) rfl rfl (Nat.le_of_ble_eq_true rfl) hdg (fun H1 locs1 hP _ hS => ?_)
  refine kk _ H1 locs1 rfl ⟨?_, hS, s_rokI S.2.2 k 2 v⟩
  rw [s_set (G := G) (σ := σ) (σ' := setI σ k 2 v) (s_kd_lt hk (by decide)) (fun q hq => by show s_cell G (upd2 σ.1 k 2 v q) _ _ q = _; rw [upd2_ne hq]; rfl) (by show s_cell G (upd2 σ.1 k 2 v k) _ _ k = _; rw [s_cell, hk]; simp [upd2, setI])] at hP
  exact hP
theorem gn_X3_2 (C : s_C G p s args m c own cc) (hlink : Cond.fieldLinkNest own idx "PhraseReader$Member" "least" "I" "PhraseReader" ∈ nestW) (hk : s_kd k = 3) (S : s_St G σ H0 H locs) (hdg : decode cc pc = .ok (.getfield idx, 3)) (kk : W p l e R s m args below meth c H locs cells slots Q (F0 m (pc + 3) ls (.int (σ.1 k 2) :: rest))) : W p l e R s m args below meth c H locs cells slots Q (F0 m pc ls (.ref (G.2.2 + k) :: rest)) := by
  have he := s_at G σ hk (by decide)
  rw [s_cl, s_cell, hk] at he
  exact va_getN (D := G.1) (cl := vwCl) (C := RX3) (T := TX3) (N := 6) (ci := 3) C.1 C.2.1 C.2.2.2.1 inlX3 C.2.2.1 C.2.2.2.2.1 S.1 k he rfl 2 (by decide) (va_Nw.use (nest_on (nest_is _ hlink)) (C.2.2.2.2.2 _ hlink)) (fun _ h => h) rfl hdg kk
theorem pn_X3_2 (C : s_C G p s args m c own cc) (hlink : Cond.fieldLinkNest own idx "PhraseReader$Member" "least" "I" "PhraseReader" ∈ nestW) (hk : s_kd k = 3) (S : s_St G σ H0 H locs) {v : Int32} (hdg : decode cc pc = .ok (.putfield idx, 3)) (kk : ∀ (σ1 : Sg) (H1 : Heap) (locs1 : List Loc), σ1 = setI σ k 2 v → s_St G σ1 H0 H1 locs1 → W p l e R s m args below meth c H1 locs1 cells slots Q (F0 m (pc + 3) ls rest)) : W p l e R s m args below meth c H locs cells slots Q (F0 m pc ls (.int v :: .ref (G.2.2 + k) :: rest)) := by
  have he := s_at G σ hk (by decide)
  rw [s_cl, s_cell, hk] at he
  refine va_putN (D := G.1) (cl := vwCl) (ty := .int) (C := RX3) (T := TX3) (N := 6) (ci := 3) C.1 C.2.1 C.2.2.2.1 inlX3 tyX3 tyX3_ok nmX3 C.2.2.1 C.2.2.2.2.1 S.1 (s_D G σ) S.2.1 k he rfl 2 (by decide) (va_Nw.use (nest_on (nest_is _ hlink)) (C.2.2.2.2.2 _ hlink)) (fun _ h => h) rfl (by decide +kernel) rfl rfl (Nat.le_of_ble_eq_true rfl) hdg (fun H1 locs1 hP _ hS => ?_)
  refine kk _ H1 locs1 rfl ⟨?_, hS, s_rokI S.2.2 k 2 v⟩
  rw [s_set (G := G) (σ := σ) (σ' := setI σ k 2 v) (s_kd_lt hk (by decide)) (fun q hq => by show s_cell G (upd2 σ.1 k 2 v q) _ _ q = _; rw [upd2_ne hq]; rfl) (by show s_cell G (upd2 σ.1 k 2 v k) _ _ k = _; rw [s_cell, hk]; simp [upd2, setI])] at hP
  exact hP
theorem g_X3_3 (C : s_C G p s args m c own cc) (hlink : Cond.fieldLink own idx "PhraseReader$Member" "most" "I" ∈ wL) (hk : s_kd k = 3) (S : s_St G σ H0 H locs) (hdg : decode cc pc = .ok (.getfield idx, 3)) (kk : W p l e R s m args below meth c H locs cells slots Q (F0 m (pc + 3) ls (.int (σ.1 k 3) :: rest))) : W p l e R s m args below meth c H locs cells slots Q (F0 m pc ls (.ref (G.2.2 + k) :: rest)) := by
  have he := s_at G σ hk (by decide)
  rw [s_cl, s_cell, hk] at he
  exact va_get (D := G.1) (cl := vwCl) (C := RX3) (T := TX3) (N := 6) (ci := 3) C.1 C.2.1 C.2.2.2.1 inlX3 C.2.2.1 C.2.2.2.2.1 S.1 k he rfl 3 (by decide) ((C.2.2.2.1 _ hlink)) (fun _ h => h) rfl hdg kk
theorem p_X3_3 (C : s_C G p s args m c own cc) (hlink : Cond.fieldLink own idx "PhraseReader$Member" "most" "I" ∈ wL) (hk : s_kd k = 3) (S : s_St G σ H0 H locs) {v : Int32} (hdg : decode cc pc = .ok (.putfield idx, 3)) (kk : ∀ (σ1 : Sg) (H1 : Heap) (locs1 : List Loc), σ1 = setI σ k 3 v → s_St G σ1 H0 H1 locs1 → W p l e R s m args below meth c H1 locs1 cells slots Q (F0 m (pc + 3) ls rest)) : W p l e R s m args below meth c H locs cells slots Q (F0 m pc ls (.int v :: .ref (G.2.2 + k) :: rest)) := by
  have he := s_at G σ hk (by decide)
  rw [s_cl, s_cell, hk] at he
  refine va_put (D := G.1) (cl := vwCl) (ty := .int) (C := RX3) (T := TX3) (N := 6) (ci := 3) C.1 C.2.1 C.2.2.2.1 inlX3 tyX3 tyX3_ok nmX3 C.2.2.1 C.2.2.2.2.1 S.1 (s_D G σ) S.2.1 k he rfl 3 (by decide) ((C.2.2.2.1 _ hlink)) (fun _ h => h) rfl (by decide +kernel) rfl rfl (Nat.le_of_ble_eq_true rfl) hdg (fun H1 locs1 hP _ hS => ?_)
  refine kk _ H1 locs1 rfl ⟨?_, hS, s_rokI S.2.2 k 3 v⟩
  rw [s_set (G := G) (σ := σ) (σ' := setI σ k 3 v) (s_kd_lt hk (by decide)) (fun q hq => by show s_cell G (upd2 σ.1 k 3 v q) _ _ q = _; rw [upd2_ne hq]; rfl) (by show s_cell G (upd2 σ.1 k 3 v k) _ _ k = _; rw [s_cell, hk]; simp [upd2, setI])] at hP
  exact hP
theorem gn_X3_3 (C : s_C G p s args m c own cc) (hlink : Cond.fieldLinkNest own idx "PhraseReader$Member" "most" "I" "PhraseReader" ∈ nestW) (hk : s_kd k = 3) (S : s_St G σ H0 H locs) (hdg : decode cc pc = .ok (.getfield idx, 3)) (kk : W p l e R s m args below meth c H locs cells slots Q (F0 m (pc + 3) ls (.int (σ.1 k 3) :: rest))) : W p l e R s m args below meth c H locs cells slots Q (F0 m pc ls (.ref (G.2.2 + k) :: rest)) := by
  have he := s_at G σ hk (by decide)
  rw [s_cl, s_cell, hk] at he
  exact va_getN (D := G.1) (cl := vwCl) (C := RX3) (T := TX3) (N := 6) (ci := 3) C.1 C.2.1 C.2.2.2.1 inlX3 C.2.2.1 C.2.2.2.2.1 S.1 k he rfl 3 (by decide) (va_Nw.use (nest_on (nest_is _ hlink)) (C.2.2.2.2.2 _ hlink)) (fun _ h => h) rfl hdg kk
theorem pn_X3_3 (C : s_C G p s args m c own cc) (hlink : Cond.fieldLinkNest own idx "PhraseReader$Member" "most" "I" "PhraseReader" ∈ nestW) (hk : s_kd k = 3) (S : s_St G σ H0 H locs) {v : Int32} (hdg : decode cc pc = .ok (.putfield idx, 3)) (kk : ∀ (σ1 : Sg) (H1 : Heap) (locs1 : List Loc), σ1 = setI σ k 3 v → s_St G σ1 H0 H1 locs1 → W p l e R s m args below meth c H1 locs1 cells slots Q (F0 m (pc + 3) ls rest)) : W p l e R s m args below meth c H locs cells slots Q (F0 m pc ls (.int v :: .ref (G.2.2 + k) :: rest)) := by
  have he := s_at G σ hk (by decide)
  rw [s_cl, s_cell, hk] at he
  refine va_putN (D := G.1) (cl := vwCl) (ty := .int) (C := RX3) (T := TX3) (N := 6) (ci := 3) C.1 C.2.1 C.2.2.2.1 inlX3 tyX3 tyX3_ok nmX3 C.2.2.1 C.2.2.2.2.1 S.1 (s_D G σ) S.2.1 k he rfl 3 (by decide) (va_Nw.use (nest_on (nest_is _ hlink)) (C.2.2.2.2.2 _ hlink)) (fun _ h => h) rfl (by decide +kernel) rfl rfl (Nat.le_of_ble_eq_true rfl) hdg (fun H1 locs1 hP _ hS => ?_)
  refine kk _ H1 locs1 rfl ⟨?_, hS, s_rokI S.2.2 k 3 v⟩
  rw [s_set (G := G) (σ := σ) (σ' := setI σ k 3 v) (s_kd_lt hk (by decide)) (fun q hq => by show s_cell G (upd2 σ.1 k 3 v q) _ _ q = _; rw [upd2_ne hq]; rfl) (by show s_cell G (upd2 σ.1 k 3 v k) _ _ k = _; rw [s_cell, hk]; simp [upd2, setI])] at hP
  exact hP
theorem g_X3_4 (C : s_C G p s args m c own cc) (hlink : Cond.fieldLink own idx "PhraseReader$Member" "fallback" "I" ∈ wL) (hk : s_kd k = 3) (S : s_St G σ H0 H locs) (hdg : decode cc pc = .ok (.getfield idx, 3)) (kk : W p l e R s m args below meth c H locs cells slots Q (F0 m (pc + 3) ls (.int (σ.1 k 4) :: rest))) : W p l e R s m args below meth c H locs cells slots Q (F0 m pc ls (.ref (G.2.2 + k) :: rest)) := by
  have he := s_at G σ hk (by decide)
  rw [s_cl, s_cell, hk] at he
  exact va_get (D := G.1) (cl := vwCl) (C := RX3) (T := TX3) (N := 6) (ci := 3) C.1 C.2.1 C.2.2.2.1 inlX3 C.2.2.1 C.2.2.2.2.1 S.1 k he rfl 4 (by decide) ((C.2.2.2.1 _ hlink)) (fun _ h => h) rfl hdg kk
theorem p_X3_4 (C : s_C G p s args m c own cc) (hlink : Cond.fieldLink own idx "PhraseReader$Member" "fallback" "I" ∈ wL) (hk : s_kd k = 3) (S : s_St G σ H0 H locs) {v : Int32} (hdg : decode cc pc = .ok (.putfield idx, 3)) (kk : ∀ (σ1 : Sg) (H1 : Heap) (locs1 : List Loc), σ1 = setI σ k 4 v → s_St G σ1 H0 H1 locs1 → W p l e R s m args below meth c H1 locs1 cells slots Q (F0 m (pc + 3) ls rest)) : W p l e R s m args below meth c H locs cells slots Q (F0 m pc ls (.int v :: .ref (G.2.2 + k) :: rest)) := by
  have he := s_at G σ hk (by decide)
  rw [s_cl, s_cell, hk] at he
  refine va_put (D := G.1) (cl := vwCl) (ty := .int) (C := RX3) (T := TX3) (N := 6) (ci := 3) C.1 C.2.1 C.2.2.2.1 inlX3 tyX3 tyX3_ok nmX3 C.2.2.1 C.2.2.2.2.1 S.1 (s_D G σ) S.2.1 k he rfl 4 (by decide) ((C.2.2.2.1 _ hlink)) (fun _ h => h) rfl (by decide +kernel) rfl rfl (Nat.le_of_ble_eq_true rfl) hdg (fun H1 locs1 hP _ hS => ?_)
  refine kk _ H1 locs1 rfl ⟨?_, hS, s_rokI S.2.2 k 4 v⟩
  rw [s_set (G := G) (σ := σ) (σ' := setI σ k 4 v) (s_kd_lt hk (by decide)) (fun q hq => by show s_cell G (upd2 σ.1 k 4 v q) _ _ q = _; rw [upd2_ne hq]; rfl) (by show s_cell G (upd2 σ.1 k 4 v k) _ _ k = _; rw [s_cell, hk]; simp [upd2, setI])] at hP
  exact hP
theorem gn_X3_4 (C : s_C G p s args m c own cc) (hlink : Cond.fieldLinkNest own idx "PhraseReader$Member" "fallback" "I" "PhraseReader" ∈ nestW) (hk : s_kd k = 3) (S : s_St G σ H0 H locs) (hdg : decode cc pc = .ok (.getfield idx, 3)) (kk : W p l e R s m args below meth c H locs cells slots Q (F0 m (pc + 3) ls (.int (σ.1 k 4) :: rest))) : W p l e R s m args below meth c H locs cells slots Q (F0 m pc ls (.ref (G.2.2 + k) :: rest)) := by
  have he := s_at G σ hk (by decide)
  rw [s_cl, s_cell, hk] at he
  exact va_getN (D := G.1) (cl := vwCl) (C := RX3) (T := TX3) (N := 6) (ci := 3) C.1 C.2.1 C.2.2.2.1 inlX3 C.2.2.1 C.2.2.2.2.1 S.1 k he rfl 4 (by decide) (va_Nw.use (nest_on (nest_is _ hlink)) (C.2.2.2.2.2 _ hlink)) (fun _ h => h) rfl hdg kk
theorem pn_X3_4 (C : s_C G p s args m c own cc) (hlink : Cond.fieldLinkNest own idx "PhraseReader$Member" "fallback" "I" "PhraseReader" ∈ nestW) (hk : s_kd k = 3) (S : s_St G σ H0 H locs) {v : Int32} (hdg : decode cc pc = .ok (.putfield idx, 3)) (kk : ∀ (σ1 : Sg) (H1 : Heap) (locs1 : List Loc), σ1 = setI σ k 4 v → s_St G σ1 H0 H1 locs1 → W p l e R s m args below meth c H1 locs1 cells slots Q (F0 m (pc + 3) ls rest)) : W p l e R s m args below meth c H locs cells slots Q (F0 m pc ls (.int v :: .ref (G.2.2 + k) :: rest)) := by
  have he := s_at G σ hk (by decide)
  rw [s_cl, s_cell, hk] at he
  refine va_putN (D := G.1) (cl := vwCl) (ty := .int) (C := RX3) (T := TX3) (N := 6) (ci := 3) C.1 C.2.1 C.2.2.2.1 inlX3 tyX3 tyX3_ok nmX3 C.2.2.1 C.2.2.2.2.1 S.1 (s_D G σ) S.2.1 k he rfl 4 (by decide) (va_Nw.use (nest_on (nest_is _ hlink)) (C.2.2.2.2.2 _ hlink)) (fun _ h => h) rfl (by decide +kernel) rfl rfl (Nat.le_of_ble_eq_true rfl) hdg (fun H1 locs1 hP _ hS => ?_)
  refine kk _ H1 locs1 rfl ⟨?_, hS, s_rokI S.2.2 k 4 v⟩
  rw [s_set (G := G) (σ := σ) (σ' := setI σ k 4 v) (s_kd_lt hk (by decide)) (fun q hq => by show s_cell G (upd2 σ.1 k 4 v q) _ _ q = _; rw [upd2_ne hq]; rfl) (by show s_cell G (upd2 σ.1 k 4 v k) _ _ k = _; rw [s_cell, hk]; simp [upd2, setI])] at hP
  exact hP
theorem g_X3_5 (C : s_C G p s args m c own cc) (hlink : Cond.fieldLink own idx "PhraseReader$Member" "before" "I" ∈ wL) (hk : s_kd k = 3) (S : s_St G σ H0 H locs) (hdg : decode cc pc = .ok (.getfield idx, 3)) (kk : W p l e R s m args below meth c H locs cells slots Q (F0 m (pc + 3) ls (.int (σ.1 k 5) :: rest))) : W p l e R s m args below meth c H locs cells slots Q (F0 m pc ls (.ref (G.2.2 + k) :: rest)) := by
  have he := s_at G σ hk (by decide)
  rw [s_cl, s_cell, hk] at he
  exact va_get (D := G.1) (cl := vwCl) (C := RX3) (T := TX3) (N := 6) (ci := 3) C.1 C.2.1 C.2.2.2.1 inlX3 C.2.2.1 C.2.2.2.2.1 S.1 k he rfl 5 (by decide) ((C.2.2.2.1 _ hlink)) (fun _ h => h) rfl hdg kk
theorem p_X3_5 (C : s_C G p s args m c own cc) (hlink : Cond.fieldLink own idx "PhraseReader$Member" "before" "I" ∈ wL) (hk : s_kd k = 3) (S : s_St G σ H0 H locs) {v : Int32} (hdg : decode cc pc = .ok (.putfield idx, 3)) (kk : ∀ (σ1 : Sg) (H1 : Heap) (locs1 : List Loc), σ1 = setI σ k 5 v → s_St G σ1 H0 H1 locs1 → W p l e R s m args below meth c H1 locs1 cells slots Q (F0 m (pc + 3) ls rest)) : W p l e R s m args below meth c H locs cells slots Q (F0 m pc ls (.int v :: .ref (G.2.2 + k) :: rest)) := by
  have he := s_at G σ hk (by decide)
  rw [s_cl, s_cell, hk] at he
  refine va_put (D := G.1) (cl := vwCl) (ty := .int) (C := RX3) (T := TX3) (N := 6) (ci := 3) C.1 C.2.1 C.2.2.2.1 inlX3 tyX3 tyX3_ok nmX3 C.2.2.1 C.2.2.2.2.1 S.1 (s_D G σ) S.2.1 k he rfl 5 (by decide) ((C.2.2.2.1 _ hlink)) (fun _ h => h) rfl (by decide +kernel) rfl rfl (Nat.le_of_ble_eq_true rfl) hdg (fun H1 locs1 hP _ hS => ?_)
  refine kk _ H1 locs1 rfl ⟨?_, hS, s_rokI S.2.2 k 5 v⟩
  rw [s_set (G := G) (σ := σ) (σ' := setI σ k 5 v) (s_kd_lt hk (by decide)) (fun q hq => by show s_cell G (upd2 σ.1 k 5 v q) _ _ q = _; rw [upd2_ne hq]; rfl) (by show s_cell G (upd2 σ.1 k 5 v k) _ _ k = _; rw [s_cell, hk]; simp [upd2, setI])] at hP
  exact hP
theorem gn_X3_5 (C : s_C G p s args m c own cc) (hlink : Cond.fieldLinkNest own idx "PhraseReader$Member" "before" "I" "PhraseReader" ∈ nestW) (hk : s_kd k = 3) (S : s_St G σ H0 H locs) (hdg : decode cc pc = .ok (.getfield idx, 3)) (kk : W p l e R s m args below meth c H locs cells slots Q (F0 m (pc + 3) ls (.int (σ.1 k 5) :: rest))) : W p l e R s m args below meth c H locs cells slots Q (F0 m pc ls (.ref (G.2.2 + k) :: rest)) := by
  have he := s_at G σ hk (by decide)
  rw [s_cl, s_cell, hk] at he
  exact va_getN (D := G.1) (cl := vwCl) (C := RX3) (T := TX3) (N := 6) (ci := 3) C.1 C.2.1 C.2.2.2.1 inlX3 C.2.2.1 C.2.2.2.2.1 S.1 k he rfl 5 (by decide) (va_Nw.use (nest_on (nest_is _ hlink)) (C.2.2.2.2.2 _ hlink)) (fun _ h => h) rfl hdg kk
theorem pn_X3_5 (C : s_C G p s args m c own cc) (hlink : Cond.fieldLinkNest own idx "PhraseReader$Member" "before" "I" "PhraseReader" ∈ nestW) (hk : s_kd k = 3) (S : s_St G σ H0 H locs) {v : Int32} (hdg : decode cc pc = .ok (.putfield idx, 3)) (kk : ∀ (σ1 : Sg) (H1 : Heap) (locs1 : List Loc), σ1 = setI σ k 5 v → s_St G σ1 H0 H1 locs1 → W p l e R s m args below meth c H1 locs1 cells slots Q (F0 m (pc + 3) ls rest)) : W p l e R s m args below meth c H locs cells slots Q (F0 m pc ls (.int v :: .ref (G.2.2 + k) :: rest)) := by
  have he := s_at G σ hk (by decide)
  rw [s_cl, s_cell, hk] at he
  refine va_putN (D := G.1) (cl := vwCl) (ty := .int) (C := RX3) (T := TX3) (N := 6) (ci := 3) C.1 C.2.1 C.2.2.2.1 inlX3 tyX3 tyX3_ok nmX3 C.2.2.1 C.2.2.2.2.1 S.1 (s_D G σ) S.2.1 k he rfl 5 (by decide) (va_Nw.use (nest_on (nest_is _ hlink)) (C.2.2.2.2.2 _ hlink)) (fun _ h => h) rfl (by decide +kernel) rfl rfl (Nat.le_of_ble_eq_true rfl) hdg (fun H1 locs1 hP _ hS => ?_)
  refine kk _ H1 locs1 rfl ⟨?_, hS, s_rokI S.2.2 k 5 v⟩
  rw [s_set (G := G) (σ := σ) (σ' := setI σ k 5 v) (s_kd_lt hk (by decide)) (fun q hq => by show s_cell G (upd2 σ.1 k 5 v q) _ _ q = _; rw [upd2_ne hq]; rfl) (by show s_cell G (upd2 σ.1 k 5 v k) _ _ k = _; rw [s_cell, hk]; simp [upd2, setI])] at hP
  exact hP
theorem g_X4_0 (C : s_C G p s args m c own cc) (hlink : Cond.fieldLink own idx "PhraseReader$OrderTable" "counts" "[J" ∈ wL) (hk : s_kd k = 4) (S : s_St G σ H0 H locs) {q : Nat} (hf : s_fin k 0 = q) (hdg : decode cc pc = .ok (.getfield idx, 3)) (kk : W p l e R s m args below meth c H locs cells slots Q (F0 m (pc + 3) ls (.ref (G.2.2 + q) :: rest))) : W p l e R s m args below meth c H locs cells slots Q (F0 m pc ls (.ref (G.2.2 + k) :: rest)) := by
  subst hf
  have he := s_at G σ hk (by decide)
  rw [s_cl, s_cell, hk] at he
  exact va_get (D := G.1) (cl := vwCl) (C := RX4) (T := TX4) (N := 2) (ci := 4) C.1 C.2.1 C.2.2.2.1 inlX4 C.2.2.1 C.2.2.2.2.1 S.1 k he rfl 0 (by decide) ((C.2.2.2.1 _ hlink)) (fun _ h => h) rfl hdg kk
theorem gn_X4_0 (C : s_C G p s args m c own cc) (hlink : Cond.fieldLinkNest own idx "PhraseReader$OrderTable" "counts" "[J" "PhraseReader" ∈ nestW) (hk : s_kd k = 4) (S : s_St G σ H0 H locs) {q : Nat} (hf : s_fin k 0 = q) (hdg : decode cc pc = .ok (.getfield idx, 3)) (kk : W p l e R s m args below meth c H locs cells slots Q (F0 m (pc + 3) ls (.ref (G.2.2 + q) :: rest))) : W p l e R s m args below meth c H locs cells slots Q (F0 m pc ls (.ref (G.2.2 + k) :: rest)) := by
  subst hf
  have he := s_at G σ hk (by decide)
  rw [s_cl, s_cell, hk] at he
  exact va_getN (D := G.1) (cl := vwCl) (C := RX4) (T := TX4) (N := 2) (ci := 4) C.1 C.2.1 C.2.2.2.1 inlX4 C.2.2.1 C.2.2.2.2.1 S.1 k he rfl 0 (by decide) (va_Nw.use (nest_on (nest_is _ hlink)) (C.2.2.2.2.2 _ hlink)) (fun _ h => h) rfl hdg kk
theorem g_X4_1 (C : s_C G p s args m c own cc) (hlink : Cond.fieldLink own idx "PhraseReader$OrderTable" "knownLength" "I" ∈ wL) (hk : s_kd k = 4) (S : s_St G σ H0 H locs) (hdg : decode cc pc = .ok (.getfield idx, 3)) (kk : W p l e R s m args below meth c H locs cells slots Q (F0 m (pc + 3) ls (.int (σ.1 k 1) :: rest))) : W p l e R s m args below meth c H locs cells slots Q (F0 m pc ls (.ref (G.2.2 + k) :: rest)) := by
  have he := s_at G σ hk (by decide)
  rw [s_cl, s_cell, hk] at he
  exact va_get (D := G.1) (cl := vwCl) (C := RX4) (T := TX4) (N := 2) (ci := 4) C.1 C.2.1 C.2.2.2.1 inlX4 C.2.2.1 C.2.2.2.2.1 S.1 k he rfl 1 (by decide) ((C.2.2.2.1 _ hlink)) (fun _ h => h) rfl hdg kk
theorem p_X4_1 (C : s_C G p s args m c own cc) (hlink : Cond.fieldLink own idx "PhraseReader$OrderTable" "knownLength" "I" ∈ wL) (hk : s_kd k = 4) (S : s_St G σ H0 H locs) {v : Int32} (hdg : decode cc pc = .ok (.putfield idx, 3)) (kk : ∀ (σ1 : Sg) (H1 : Heap) (locs1 : List Loc), σ1 = setI σ k 1 v → s_St G σ1 H0 H1 locs1 → W p l e R s m args below meth c H1 locs1 cells slots Q (F0 m (pc + 3) ls rest)) : W p l e R s m args below meth c H locs cells slots Q (F0 m pc ls (.int v :: .ref (G.2.2 + k) :: rest)) := by
  have he := s_at G σ hk (by decide)
  rw [s_cl, s_cell, hk] at he
  refine va_put (D := G.1) (cl := vwCl) (ty := .int) (C := RX4) (T := TX4) (N := 2) (ci := 4) C.1 C.2.1 C.2.2.2.1 inlX4 tyX4 tyX4_ok nmX4 C.2.2.1 C.2.2.2.2.1 S.1 (s_D G σ) S.2.1 k he rfl 1 (by decide) ((C.2.2.2.1 _ hlink)) (fun _ h => h) rfl (by decide +kernel) rfl rfl (Nat.le_of_ble_eq_true rfl) hdg (fun H1 locs1 hP _ hS => ?_)
  refine kk _ H1 locs1 rfl ⟨?_, hS, s_rokI S.2.2 k 1 v⟩
  rw [s_set (G := G) (σ := σ) (σ' := setI σ k 1 v) (s_kd_lt hk (by decide)) (fun q hq => by show s_cell G (upd2 σ.1 k 1 v q) _ _ q = _; rw [upd2_ne hq]; rfl) (by show s_cell G (upd2 σ.1 k 1 v k) _ _ k = _; rw [s_cell, hk]; simp [upd2, setI])] at hP
  exact hP
theorem gn_X4_1 (C : s_C G p s args m c own cc) (hlink : Cond.fieldLinkNest own idx "PhraseReader$OrderTable" "knownLength" "I" "PhraseReader" ∈ nestW) (hk : s_kd k = 4) (S : s_St G σ H0 H locs) (hdg : decode cc pc = .ok (.getfield idx, 3)) (kk : W p l e R s m args below meth c H locs cells slots Q (F0 m (pc + 3) ls (.int (σ.1 k 1) :: rest))) : W p l e R s m args below meth c H locs cells slots Q (F0 m pc ls (.ref (G.2.2 + k) :: rest)) := by
  have he := s_at G σ hk (by decide)
  rw [s_cl, s_cell, hk] at he
  exact va_getN (D := G.1) (cl := vwCl) (C := RX4) (T := TX4) (N := 2) (ci := 4) C.1 C.2.1 C.2.2.2.1 inlX4 C.2.2.1 C.2.2.2.2.1 S.1 k he rfl 1 (by decide) (va_Nw.use (nest_on (nest_is _ hlink)) (C.2.2.2.2.2 _ hlink)) (fun _ h => h) rfl hdg kk
theorem pn_X4_1 (C : s_C G p s args m c own cc) (hlink : Cond.fieldLinkNest own idx "PhraseReader$OrderTable" "knownLength" "I" "PhraseReader" ∈ nestW) (hk : s_kd k = 4) (S : s_St G σ H0 H locs) {v : Int32} (hdg : decode cc pc = .ok (.putfield idx, 3)) (kk : ∀ (σ1 : Sg) (H1 : Heap) (locs1 : List Loc), σ1 = setI σ k 1 v → s_St G σ1 H0 H1 locs1 → W p l e R s m args below meth c H1 locs1 cells slots Q (F0 m (pc + 3) ls rest)) : W p l e R s m args below meth c H locs cells slots Q (F0 m pc ls (.int v :: .ref (G.2.2 + k) :: rest)) := by
  have he := s_at G σ hk (by decide)
  rw [s_cl, s_cell, hk] at he
  refine va_putN (D := G.1) (cl := vwCl) (ty := .int) (C := RX4) (T := TX4) (N := 2) (ci := 4) C.1 C.2.1 C.2.2.2.1 inlX4 tyX4 tyX4_ok nmX4 C.2.2.1 C.2.2.2.2.1 S.1 (s_D G σ) S.2.1 k he rfl 1 (by decide) (va_Nw.use (nest_on (nest_is _ hlink)) (C.2.2.2.2.2 _ hlink)) (fun _ h => h) rfl (by decide +kernel) rfl rfl (Nat.le_of_ble_eq_true rfl) hdg (fun H1 locs1 hP _ hS => ?_)
  refine kk _ H1 locs1 rfl ⟨?_, hS, s_rokI S.2.2 k 1 v⟩
  rw [s_set (G := G) (σ := σ) (σ' := setI σ k 1 v) (s_kd_lt hk (by decide)) (fun q hq => by show s_cell G (upd2 σ.1 k 1 v q) _ _ q = _; rw [upd2_ne hq]; rfl) (by show s_cell G (upd2 σ.1 k 1 v k) _ _ k = _; rw [s_cell, hk]; simp [upd2, setI])] at hP
  exact hP
theorem g_X5_0 (C : s_C G p s args m c own cc) (hlink : Cond.fieldLink own idx "PhraseReader$Reading" "ends" "[I" ∈ wL) (hk : s_kd k = 5) (S : s_St G σ H0 H locs) {q : Nat} (hf : s_fin k 0 = q) (hdg : decode cc pc = .ok (.getfield idx, 3)) (kk : W p l e R s m args below meth c H locs cells slots Q (F0 m (pc + 3) ls (.ref (G.2.2 + q) :: rest))) : W p l e R s m args below meth c H locs cells slots Q (F0 m pc ls (.ref (G.2.2 + k) :: rest)) := by
  subst hf
  have he := s_at G σ hk (by decide)
  rw [s_cl, s_cell, hk] at he
  exact va_get (D := G.1) (cl := vwCl) (C := RX5) (T := TX5) (N := 8) (ci := 5) C.1 C.2.1 C.2.2.2.1 inlX5 C.2.2.1 C.2.2.2.2.1 S.1 k he rfl 0 (by decide) ((C.2.2.2.1 _ hlink)) (fun _ h => h) rfl hdg kk
theorem gn_X5_0 (C : s_C G p s args m c own cc) (hlink : Cond.fieldLinkNest own idx "PhraseReader$Reading" "ends" "[I" "PhraseReader" ∈ nestW) (hk : s_kd k = 5) (S : s_St G σ H0 H locs) {q : Nat} (hf : s_fin k 0 = q) (hdg : decode cc pc = .ok (.getfield idx, 3)) (kk : W p l e R s m args below meth c H locs cells slots Q (F0 m (pc + 3) ls (.ref (G.2.2 + q) :: rest))) : W p l e R s m args below meth c H locs cells slots Q (F0 m pc ls (.ref (G.2.2 + k) :: rest)) := by
  subst hf
  have he := s_at G σ hk (by decide)
  rw [s_cl, s_cell, hk] at he
  exact va_getN (D := G.1) (cl := vwCl) (C := RX5) (T := TX5) (N := 8) (ci := 5) C.1 C.2.1 C.2.2.2.1 inlX5 C.2.2.1 C.2.2.2.2.1 S.1 k he rfl 0 (by decide) (va_Nw.use (nest_on (nest_is _ hlink)) (C.2.2.2.2.2 _ hlink)) (fun _ h => h) rfl hdg kk
theorem g_X5_1 (C : s_C G p s args m c own cc) (hlink : Cond.fieldLink own idx "PhraseReader$Reading" "steps" "[I" ∈ wL) (hk : s_kd k = 5) (S : s_St G σ H0 H locs) {q : Nat} (hf : s_fin k 1 = q) (hdg : decode cc pc = .ok (.getfield idx, 3)) (kk : W p l e R s m args below meth c H locs cells slots Q (F0 m (pc + 3) ls (.ref (G.2.2 + q) :: rest))) : W p l e R s m args below meth c H locs cells slots Q (F0 m pc ls (.ref (G.2.2 + k) :: rest)) := by
  subst hf
  have he := s_at G σ hk (by decide)
  rw [s_cl, s_cell, hk] at he
  exact va_get (D := G.1) (cl := vwCl) (C := RX5) (T := TX5) (N := 8) (ci := 5) C.1 C.2.1 C.2.2.2.1 inlX5 C.2.2.1 C.2.2.2.2.1 S.1 k he rfl 1 (by decide) ((C.2.2.2.1 _ hlink)) (fun _ h => h) rfl hdg kk
theorem gn_X5_1 (C : s_C G p s args m c own cc) (hlink : Cond.fieldLinkNest own idx "PhraseReader$Reading" "steps" "[I" "PhraseReader" ∈ nestW) (hk : s_kd k = 5) (S : s_St G σ H0 H locs) {q : Nat} (hf : s_fin k 1 = q) (hdg : decode cc pc = .ok (.getfield idx, 3)) (kk : W p l e R s m args below meth c H locs cells slots Q (F0 m (pc + 3) ls (.ref (G.2.2 + q) :: rest))) : W p l e R s m args below meth c H locs cells slots Q (F0 m pc ls (.ref (G.2.2 + k) :: rest)) := by
  subst hf
  have he := s_at G σ hk (by decide)
  rw [s_cl, s_cell, hk] at he
  exact va_getN (D := G.1) (cl := vwCl) (C := RX5) (T := TX5) (N := 8) (ci := 5) C.1 C.2.1 C.2.2.2.1 inlX5 C.2.2.1 C.2.2.2.2.1 S.1 k he rfl 1 (by decide) (va_Nw.use (nest_on (nest_is _ hlink)) (C.2.2.2.2.2 _ hlink)) (fun _ h => h) rfl hdg kk
theorem g_X5_2 (C : s_C G p s args m c own cc) (hlink : Cond.fieldLink own idx "PhraseReader$Reading" "ways" "[J" ∈ wL) (hk : s_kd k = 5) (S : s_St G σ H0 H locs) {q : Nat} (hf : s_fin k 2 = q) (hdg : decode cc pc = .ok (.getfield idx, 3)) (kk : W p l e R s m args below meth c H locs cells slots Q (F0 m (pc + 3) ls (.ref (G.2.2 + q) :: rest))) : W p l e R s m args below meth c H locs cells slots Q (F0 m pc ls (.ref (G.2.2 + k) :: rest)) := by
  subst hf
  have he := s_at G σ hk (by decide)
  rw [s_cl, s_cell, hk] at he
  exact va_get (D := G.1) (cl := vwCl) (C := RX5) (T := TX5) (N := 8) (ci := 5) C.1 C.2.1 C.2.2.2.1 inlX5 C.2.2.1 C.2.2.2.2.1 S.1 k he rfl 2 (by decide) ((C.2.2.2.1 _ hlink)) (fun _ h => h) rfl hdg kk
theorem gn_X5_2 (C : s_C G p s args m c own cc) (hlink : Cond.fieldLinkNest own idx "PhraseReader$Reading" "ways" "[J" "PhraseReader" ∈ nestW) (hk : s_kd k = 5) (S : s_St G σ H0 H locs) {q : Nat} (hf : s_fin k 2 = q) (hdg : decode cc pc = .ok (.getfield idx, 3)) (kk : W p l e R s m args below meth c H locs cells slots Q (F0 m (pc + 3) ls (.ref (G.2.2 + q) :: rest))) : W p l e R s m args below meth c H locs cells slots Q (F0 m pc ls (.ref (G.2.2 + k) :: rest)) := by
  subst hf
  have he := s_at G σ hk (by decide)
  rw [s_cl, s_cell, hk] at he
  exact va_getN (D := G.1) (cl := vwCl) (C := RX5) (T := TX5) (N := 8) (ci := 5) C.1 C.2.1 C.2.2.2.1 inlX5 C.2.2.1 C.2.2.2.2.1 S.1 k he rfl 2 (by decide) (va_Nw.use (nest_on (nest_is _ hlink)) (C.2.2.2.2.2 _ hlink)) (fun _ h => h) rfl hdg kk
theorem g_X5_3 (C : s_C G p s args m c own cc) (hlink : Cond.fieldLink own idx "PhraseReader$Reading" "members" "[I" ∈ wL) (hk : s_kd k = 5) (S : s_St G σ H0 H locs) {q : Nat} (hf : s_fin k 3 = q) (hdg : decode cc pc = .ok (.getfield idx, 3)) (kk : W p l e R s m args below meth c H locs cells slots Q (F0 m (pc + 3) ls (.ref (G.2.2 + q) :: rest))) : W p l e R s m args below meth c H locs cells slots Q (F0 m pc ls (.ref (G.2.2 + k) :: rest)) := by
  subst hf
  have he := s_at G σ hk (by decide)
  rw [s_cl, s_cell, hk] at he
  exact va_get (D := G.1) (cl := vwCl) (C := RX5) (T := TX5) (N := 8) (ci := 5) C.1 C.2.1 C.2.2.2.1 inlX5 C.2.2.1 C.2.2.2.2.1 S.1 k he rfl 3 (by decide) ((C.2.2.2.1 _ hlink)) (fun _ h => h) rfl hdg kk
theorem gn_X5_3 (C : s_C G p s args m c own cc) (hlink : Cond.fieldLinkNest own idx "PhraseReader$Reading" "members" "[I" "PhraseReader" ∈ nestW) (hk : s_kd k = 5) (S : s_St G σ H0 H locs) {q : Nat} (hf : s_fin k 3 = q) (hdg : decode cc pc = .ok (.getfield idx, 3)) (kk : W p l e R s m args below meth c H locs cells slots Q (F0 m (pc + 3) ls (.ref (G.2.2 + q) :: rest))) : W p l e R s m args below meth c H locs cells slots Q (F0 m pc ls (.ref (G.2.2 + k) :: rest)) := by
  subst hf
  have he := s_at G σ hk (by decide)
  rw [s_cl, s_cell, hk] at he
  exact va_getN (D := G.1) (cl := vwCl) (C := RX5) (T := TX5) (N := 8) (ci := 5) C.1 C.2.1 C.2.2.2.1 inlX5 C.2.2.1 C.2.2.2.2.1 S.1 k he rfl 3 (by decide) (va_Nw.use (nest_on (nest_is _ hlink)) (C.2.2.2.2.2 _ hlink)) (fun _ h => h) rfl hdg kk
theorem g_X5_4 (C : s_C G p s args m c own cc) (hlink : Cond.fieldLink own idx "PhraseReader$Reading" "starts" "[I" ∈ wL) (hk : s_kd k = 5) (S : s_St G σ H0 H locs) {q : Nat} (hf : s_fin k 4 = q) (hdg : decode cc pc = .ok (.getfield idx, 3)) (kk : W p l e R s m args below meth c H locs cells slots Q (F0 m (pc + 3) ls (.ref (G.2.2 + q) :: rest))) : W p l e R s m args below meth c H locs cells slots Q (F0 m pc ls (.ref (G.2.2 + k) :: rest)) := by
  subst hf
  have he := s_at G σ hk (by decide)
  rw [s_cl, s_cell, hk] at he
  exact va_get (D := G.1) (cl := vwCl) (C := RX5) (T := TX5) (N := 8) (ci := 5) C.1 C.2.1 C.2.2.2.1 inlX5 C.2.2.1 C.2.2.2.2.1 S.1 k he rfl 4 (by decide) ((C.2.2.2.1 _ hlink)) (fun _ h => h) rfl hdg kk
theorem gn_X5_4 (C : s_C G p s args m c own cc) (hlink : Cond.fieldLinkNest own idx "PhraseReader$Reading" "starts" "[I" "PhraseReader" ∈ nestW) (hk : s_kd k = 5) (S : s_St G σ H0 H locs) {q : Nat} (hf : s_fin k 4 = q) (hdg : decode cc pc = .ok (.getfield idx, 3)) (kk : W p l e R s m args below meth c H locs cells slots Q (F0 m (pc + 3) ls (.ref (G.2.2 + q) :: rest))) : W p l e R s m args below meth c H locs cells slots Q (F0 m pc ls (.ref (G.2.2 + k) :: rest)) := by
  subst hf
  have he := s_at G σ hk (by decide)
  rw [s_cl, s_cell, hk] at he
  exact va_getN (D := G.1) (cl := vwCl) (C := RX5) (T := TX5) (N := 8) (ci := 5) C.1 C.2.1 C.2.2.2.1 inlX5 C.2.2.1 C.2.2.2.2.1 S.1 k he rfl 4 (by decide) (va_Nw.use (nest_on (nest_is _ hlink)) (C.2.2.2.2.2 _ hlink)) (fun _ h => h) rfl hdg kk
theorem g_X5_5 (C : s_C G p s args m c own cc) (hlink : Cond.fieldLink own idx "PhraseReader$Reading" "numbers" "[I" ∈ wL) (hk : s_kd k = 5) (S : s_St G σ H0 H locs) {q : Nat} (hf : s_fin k 5 = q) (hdg : decode cc pc = .ok (.getfield idx, 3)) (kk : W p l e R s m args below meth c H locs cells slots Q (F0 m (pc + 3) ls (.ref (G.2.2 + q) :: rest))) : W p l e R s m args below meth c H locs cells slots Q (F0 m pc ls (.ref (G.2.2 + k) :: rest)) := by
  subst hf
  have he := s_at G σ hk (by decide)
  rw [s_cl, s_cell, hk] at he
  exact va_get (D := G.1) (cl := vwCl) (C := RX5) (T := TX5) (N := 8) (ci := 5) C.1 C.2.1 C.2.2.2.1 inlX5 C.2.2.1 C.2.2.2.2.1 S.1 k he rfl 5 (by decide) ((C.2.2.2.1 _ hlink)) (fun _ h => h) rfl hdg kk
theorem gn_X5_5 (C : s_C G p s args m c own cc) (hlink : Cond.fieldLinkNest own idx "PhraseReader$Reading" "numbers" "[I" "PhraseReader" ∈ nestW) (hk : s_kd k = 5) (S : s_St G σ H0 H locs) {q : Nat} (hf : s_fin k 5 = q) (hdg : decode cc pc = .ok (.getfield idx, 3)) (kk : W p l e R s m args below meth c H locs cells slots Q (F0 m (pc + 3) ls (.ref (G.2.2 + q) :: rest))) : W p l e R s m args below meth c H locs cells slots Q (F0 m pc ls (.ref (G.2.2 + k) :: rest)) := by
  subst hf
  have he := s_at G σ hk (by decide)
  rw [s_cl, s_cell, hk] at he
  exact va_getN (D := G.1) (cl := vwCl) (C := RX5) (T := TX5) (N := 8) (ci := 5) C.1 C.2.1 C.2.2.2.1 inlX5 C.2.2.1 C.2.2.2.2.1 S.1 k he rfl 5 (by decide) (va_Nw.use (nest_on (nest_is _ hlink)) (C.2.2.2.2.2 _ hlink)) (fun _ h => h) rfl hdg kk
theorem g_X5_6 (C : s_C G p s args m c own cc) (hlink : Cond.fieldLink own idx "PhraseReader$Reading" "count" "I" ∈ wL) (hk : s_kd k = 5) (S : s_St G σ H0 H locs) (hdg : decode cc pc = .ok (.getfield idx, 3)) (kk : W p l e R s m args below meth c H locs cells slots Q (F0 m (pc + 3) ls (.int (σ.1 k 6) :: rest))) : W p l e R s m args below meth c H locs cells slots Q (F0 m pc ls (.ref (G.2.2 + k) :: rest)) := by
  have he := s_at G σ hk (by decide)
  rw [s_cl, s_cell, hk] at he
  exact va_get (D := G.1) (cl := vwCl) (C := RX5) (T := TX5) (N := 8) (ci := 5) C.1 C.2.1 C.2.2.2.1 inlX5 C.2.2.1 C.2.2.2.2.1 S.1 k he rfl 6 (by decide) ((C.2.2.2.1 _ hlink)) (fun _ h => h) rfl hdg kk
theorem p_X5_6 (C : s_C G p s args m c own cc) (hlink : Cond.fieldLink own idx "PhraseReader$Reading" "count" "I" ∈ wL) (hk : s_kd k = 5) (S : s_St G σ H0 H locs) {v : Int32} (hdg : decode cc pc = .ok (.putfield idx, 3)) (kk : ∀ (σ1 : Sg) (H1 : Heap) (locs1 : List Loc), σ1 = setI σ k 6 v → s_St G σ1 H0 H1 locs1 → W p l e R s m args below meth c H1 locs1 cells slots Q (F0 m (pc + 3) ls rest)) : W p l e R s m args below meth c H locs cells slots Q (F0 m pc ls (.int v :: .ref (G.2.2 + k) :: rest)) := by
  have he := s_at G σ hk (by decide)
  rw [s_cl, s_cell, hk] at he
  refine va_put (D := G.1) (cl := vwCl) (ty := .int) (C := RX5) (T := TX5) (N := 8) (ci := 5) C.1 C.2.1 C.2.2.2.1 inlX5 tyX5 tyX5_ok nmX5 C.2.2.1 C.2.2.2.2.1 S.1 (s_D G σ) S.2.1 k he rfl 6 (by decide) ((C.2.2.2.1 _ hlink)) (fun _ h => h) rfl (by decide +kernel) rfl rfl (Nat.le_of_ble_eq_true rfl) hdg (fun H1 locs1 hP _ hS => ?_)
  refine kk _ H1 locs1 rfl ⟨?_, hS, s_rokI S.2.2 k 6 v⟩
  rw [s_set (G := G) (σ := σ) (σ' := setI σ k 6 v) (s_kd_lt hk (by decide)) (fun q hq => by show s_cell G (upd2 σ.1 k 6 v q) _ _ q = _; rw [upd2_ne hq]; rfl) (by show s_cell G (upd2 σ.1 k 6 v k) _ _ k = _; rw [s_cell, hk]; simp [upd2, setI])] at hP
  exact hP
theorem gn_X5_6 (C : s_C G p s args m c own cc) (hlink : Cond.fieldLinkNest own idx "PhraseReader$Reading" "count" "I" "PhraseReader" ∈ nestW) (hk : s_kd k = 5) (S : s_St G σ H0 H locs) (hdg : decode cc pc = .ok (.getfield idx, 3)) (kk : W p l e R s m args below meth c H locs cells slots Q (F0 m (pc + 3) ls (.int (σ.1 k 6) :: rest))) : W p l e R s m args below meth c H locs cells slots Q (F0 m pc ls (.ref (G.2.2 + k) :: rest)) := by
  have he := s_at G σ hk (by decide)
  rw [s_cl, s_cell, hk] at he
  exact va_getN (D := G.1) (cl := vwCl) (C := RX5) (T := TX5) (N := 8) (ci := 5) C.1 C.2.1 C.2.2.2.1 inlX5 C.2.2.1 C.2.2.2.2.1 S.1 k he rfl 6 (by decide) (va_Nw.use (nest_on (nest_is _ hlink)) (C.2.2.2.2.2 _ hlink)) (fun _ h => h) rfl hdg kk
theorem pn_X5_6 (C : s_C G p s args m c own cc) (hlink : Cond.fieldLinkNest own idx "PhraseReader$Reading" "count" "I" "PhraseReader" ∈ nestW) (hk : s_kd k = 5) (S : s_St G σ H0 H locs) {v : Int32} (hdg : decode cc pc = .ok (.putfield idx, 3)) (kk : ∀ (σ1 : Sg) (H1 : Heap) (locs1 : List Loc), σ1 = setI σ k 6 v → s_St G σ1 H0 H1 locs1 → W p l e R s m args below meth c H1 locs1 cells slots Q (F0 m (pc + 3) ls rest)) : W p l e R s m args below meth c H locs cells slots Q (F0 m pc ls (.int v :: .ref (G.2.2 + k) :: rest)) := by
  have he := s_at G σ hk (by decide)
  rw [s_cl, s_cell, hk] at he
  refine va_putN (D := G.1) (cl := vwCl) (ty := .int) (C := RX5) (T := TX5) (N := 8) (ci := 5) C.1 C.2.1 C.2.2.2.1 inlX5 tyX5 tyX5_ok nmX5 C.2.2.1 C.2.2.2.2.1 S.1 (s_D G σ) S.2.1 k he rfl 6 (by decide) (va_Nw.use (nest_on (nest_is _ hlink)) (C.2.2.2.2.2 _ hlink)) (fun _ h => h) rfl (by decide +kernel) rfl rfl (Nat.le_of_ble_eq_true rfl) hdg (fun H1 locs1 hP _ hS => ?_)
  refine kk _ H1 locs1 rfl ⟨?_, hS, s_rokI S.2.2 k 6 v⟩
  rw [s_set (G := G) (σ := σ) (σ' := setI σ k 6 v) (s_kd_lt hk (by decide)) (fun q hq => by show s_cell G (upd2 σ.1 k 6 v q) _ _ q = _; rw [upd2_ne hq]; rfl) (by show s_cell G (upd2 σ.1 k 6 v k) _ _ k = _; rw [s_cell, hk]; simp [upd2, setI])] at hP
  exact hP
theorem g_X5_7 (C : s_C G p s args m c own cc) (hlink : Cond.fieldLink own idx "PhraseReader$Reading" "known" "Z" ∈ wL) (hk : s_kd k = 5) (S : s_St G σ H0 H locs) (hdg : decode cc pc = .ok (.getfield idx, 3)) (kk : W p l e R s m args below meth c H locs cells slots Q (F0 m (pc + 3) ls (.int (σ.1 k 7) :: rest))) : W p l e R s m args below meth c H locs cells slots Q (F0 m pc ls (.ref (G.2.2 + k) :: rest)) := by
  have he := s_at G σ hk (by decide)
  rw [s_cl, s_cell, hk] at he
  exact va_get (D := G.1) (cl := vwCl) (C := RX5) (T := TX5) (N := 8) (ci := 5) C.1 C.2.1 C.2.2.2.1 inlX5 C.2.2.1 C.2.2.2.2.1 S.1 k he rfl 7 (by decide) ((C.2.2.2.1 _ hlink)) (fun _ h => h) rfl hdg kk
theorem p_X5_7 (C : s_C G p s args m c own cc) (hlink : Cond.fieldLink own idx "PhraseReader$Reading" "known" "Z" ∈ wL) (hk : s_kd k = 5) (S : s_St G σ H0 H locs) {v : Int32} (hn : narrow .boolean (.int v) = .int v) (hfit : fits .boolean (.int v) = true) (hdg : decode cc pc = .ok (.putfield idx, 3)) (kk : ∀ (σ1 : Sg) (H1 : Heap) (locs1 : List Loc), σ1 = setI σ k 7 v → s_St G σ1 H0 H1 locs1 → W p l e R s m args below meth c H1 locs1 cells slots Q (F0 m (pc + 3) ls rest)) : W p l e R s m args below meth c H locs cells slots Q (F0 m pc ls (.int v :: .ref (G.2.2 + k) :: rest)) := by
  have he := s_at G σ hk (by decide)
  rw [s_cl, s_cell, hk] at he
  refine va_put (D := G.1) (cl := vwCl) (ty := .boolean) (C := RX5) (T := TX5) (N := 8) (ci := 5) C.1 C.2.1 C.2.2.2.1 inlX5 tyX5 tyX5_ok nmX5 C.2.2.1 C.2.2.2.2.1 S.1 (s_D G σ) S.2.1 k he rfl 7 (by decide) ((C.2.2.2.1 _ hlink)) (fun _ h => h) rfl (by decide +kernel) hn hfit (Nat.le_of_ble_eq_true rfl) hdg (fun H1 locs1 hP _ hS => ?_)
  refine kk _ H1 locs1 rfl ⟨?_, hS, s_rokI S.2.2 k 7 v⟩
  rw [s_set (G := G) (σ := σ) (σ' := setI σ k 7 v) (s_kd_lt hk (by decide)) (fun q hq => by show s_cell G (upd2 σ.1 k 7 v q) _ _ q = _; rw [upd2_ne hq]; rfl) (by show s_cell G (upd2 σ.1 k 7 v k) _ _ k = _; rw [s_cell, hk]; simp [upd2, setI])] at hP
  exact hP
theorem gn_X5_7 (C : s_C G p s args m c own cc) (hlink : Cond.fieldLinkNest own idx "PhraseReader$Reading" "known" "Z" "PhraseReader" ∈ nestW) (hk : s_kd k = 5) (S : s_St G σ H0 H locs) (hdg : decode cc pc = .ok (.getfield idx, 3)) (kk : W p l e R s m args below meth c H locs cells slots Q (F0 m (pc + 3) ls (.int (σ.1 k 7) :: rest))) : W p l e R s m args below meth c H locs cells slots Q (F0 m pc ls (.ref (G.2.2 + k) :: rest)) := by
  have he := s_at G σ hk (by decide)
  rw [s_cl, s_cell, hk] at he
  exact va_getN (D := G.1) (cl := vwCl) (C := RX5) (T := TX5) (N := 8) (ci := 5) C.1 C.2.1 C.2.2.2.1 inlX5 C.2.2.1 C.2.2.2.2.1 S.1 k he rfl 7 (by decide) (va_Nw.use (nest_on (nest_is _ hlink)) (C.2.2.2.2.2 _ hlink)) (fun _ h => h) rfl hdg kk
theorem pn_X5_7 (C : s_C G p s args m c own cc) (hlink : Cond.fieldLinkNest own idx "PhraseReader$Reading" "known" "Z" "PhraseReader" ∈ nestW) (hk : s_kd k = 5) (S : s_St G σ H0 H locs) {v : Int32} (hn : narrow .boolean (.int v) = .int v) (hfit : fits .boolean (.int v) = true) (hdg : decode cc pc = .ok (.putfield idx, 3)) (kk : ∀ (σ1 : Sg) (H1 : Heap) (locs1 : List Loc), σ1 = setI σ k 7 v → s_St G σ1 H0 H1 locs1 → W p l e R s m args below meth c H1 locs1 cells slots Q (F0 m (pc + 3) ls rest)) : W p l e R s m args below meth c H locs cells slots Q (F0 m pc ls (.int v :: .ref (G.2.2 + k) :: rest)) := by
  have he := s_at G σ hk (by decide)
  rw [s_cl, s_cell, hk] at he
  refine va_putN (D := G.1) (cl := vwCl) (ty := .boolean) (C := RX5) (T := TX5) (N := 8) (ci := 5) C.1 C.2.1 C.2.2.2.1 inlX5 tyX5 tyX5_ok nmX5 C.2.2.1 C.2.2.2.2.1 S.1 (s_D G σ) S.2.1 k he rfl 7 (by decide) (va_Nw.use (nest_on (nest_is _ hlink)) (C.2.2.2.2.2 _ hlink)) (fun _ h => h) rfl (by decide +kernel) hn hfit (Nat.le_of_ble_eq_true rfl) hdg (fun H1 locs1 hP _ hS => ?_)
  refine kk _ H1 locs1 rfl ⟨?_, hS, s_rokI S.2.2 k 7 v⟩
  rw [s_set (G := G) (σ := σ) (σ' := setI σ k 7 v) (s_kd_lt hk (by decide)) (fun q hq => by show s_cell G (upd2 σ.1 k 7 v q) _ _ q = _; rw [upd2_ne hq]; rfl) (by show s_cell G (upd2 σ.1 k 7 v k) _ _ k = _; rw [s_cell, hk]; simp [upd2, setI])] at hP
  exact hP
theorem g_X6_0 (C : s_C G p s args m c own cc) (hlink : Cond.fieldLink own idx "PhraseReader" "text" "LPhraseReader$Bytes;" ∈ wL) (hk : s_kd k = 6) (S : s_St G σ H0 H locs) {q : Nat} (hf : s_fin k 0 = q) (hdg : decode cc pc = .ok (.getfield idx, 3)) (kk : W p l e R s m args below meth c H locs cells slots Q (F0 m (pc + 3) ls (.ref (G.2.2 + q) :: rest))) : W p l e R s m args below meth c H locs cells slots Q (F0 m pc ls (.ref (G.2.2 + k) :: rest)) := by
  subst hf
  have he := s_at G σ hk (by decide)
  rw [s_cl, s_cell, hk] at he
  exact va_get (D := G.1) (cl := vwCl) (C := RX6) (T := TX6) (N := 8) (ci := 6) C.1 C.2.1 C.2.2.2.1 inlX6 C.2.2.1 C.2.2.2.2.1 S.1 k he rfl 0 (by decide) ((C.2.2.2.1 _ hlink)) (fun _ h => h) rfl hdg kk
theorem gn_X6_0 (C : s_C G p s args m c own cc) (hlink : Cond.fieldLinkNest own idx "PhraseReader" "text" "LPhraseReader$Bytes;" "PhraseReader" ∈ nestW) (hk : s_kd k = 6) (S : s_St G σ H0 H locs) {q : Nat} (hf : s_fin k 0 = q) (hdg : decode cc pc = .ok (.getfield idx, 3)) (kk : W p l e R s m args below meth c H locs cells slots Q (F0 m (pc + 3) ls (.ref (G.2.2 + q) :: rest))) : W p l e R s m args below meth c H locs cells slots Q (F0 m pc ls (.ref (G.2.2 + k) :: rest)) := by
  subst hf
  have he := s_at G σ hk (by decide)
  rw [s_cl, s_cell, hk] at he
  exact va_getN (D := G.1) (cl := vwCl) (C := RX6) (T := TX6) (N := 8) (ci := 6) C.1 C.2.1 C.2.2.2.1 inlX6 C.2.2.1 C.2.2.2.2.1 S.1 k he rfl 0 (by decide) (va_Nw.use (nest_on (nest_is _ hlink)) (C.2.2.2.2.2 _ hlink)) (fun _ h => h) rfl hdg kk
theorem g_X6_1 (C : s_C G p s args m c own cc) (hlink : Cond.fieldLink own idx "PhraseReader" "normalForm" "LPhraseReader$Bytes;" ∈ wL) (hk : s_kd k = 6) (S : s_St G σ H0 H locs) {q : Nat} (hf : s_fin k 1 = q) (hdg : decode cc pc = .ok (.getfield idx, 3)) (kk : W p l e R s m args below meth c H locs cells slots Q (F0 m (pc + 3) ls (.ref (G.2.2 + q) :: rest))) : W p l e R s m args below meth c H locs cells slots Q (F0 m pc ls (.ref (G.2.2 + k) :: rest)) := by
  subst hf
  have he := s_at G σ hk (by decide)
  rw [s_cl, s_cell, hk] at he
  exact va_get (D := G.1) (cl := vwCl) (C := RX6) (T := TX6) (N := 8) (ci := 6) C.1 C.2.1 C.2.2.2.1 inlX6 C.2.2.1 C.2.2.2.2.1 S.1 k he rfl 1 (by decide) ((C.2.2.2.1 _ hlink)) (fun _ h => h) rfl hdg kk
theorem gn_X6_1 (C : s_C G p s args m c own cc) (hlink : Cond.fieldLinkNest own idx "PhraseReader" "normalForm" "LPhraseReader$Bytes;" "PhraseReader" ∈ nestW) (hk : s_kd k = 6) (S : s_St G σ H0 H locs) {q : Nat} (hf : s_fin k 1 = q) (hdg : decode cc pc = .ok (.getfield idx, 3)) (kk : W p l e R s m args below meth c H locs cells slots Q (F0 m (pc + 3) ls (.ref (G.2.2 + q) :: rest))) : W p l e R s m args below meth c H locs cells slots Q (F0 m pc ls (.ref (G.2.2 + k) :: rest)) := by
  subst hf
  have he := s_at G σ hk (by decide)
  rw [s_cl, s_cell, hk] at he
  exact va_getN (D := G.1) (cl := vwCl) (C := RX6) (T := TX6) (N := 8) (ci := 6) C.1 C.2.1 C.2.2.2.1 inlX6 C.2.2.1 C.2.2.2.2.1 S.1 k he rfl 1 (by decide) (va_Nw.use (nest_on (nest_is _ hlink)) (C.2.2.2.2.2 _ hlink)) (fun _ h => h) rfl hdg kk
theorem g_X6_2 (C : s_C G p s args m c own cc) (hlink : Cond.fieldLink own idx "PhraseReader" "now" "LPhraseReader$Declarations;" ∈ wL) (hk : s_kd k = 6) (S : s_St G σ H0 H locs) {q : Nat} (hf : s_fin k 2 = q) (hdg : decode cc pc = .ok (.getfield idx, 3)) (kk : W p l e R s m args below meth c H locs cells slots Q (F0 m (pc + 3) ls (.ref (G.2.2 + q) :: rest))) : W p l e R s m args below meth c H locs cells slots Q (F0 m pc ls (.ref (G.2.2 + k) :: rest)) := by
  subst hf
  have he := s_at G σ hk (by decide)
  rw [s_cl, s_cell, hk] at he
  exact va_get (D := G.1) (cl := vwCl) (C := RX6) (T := TX6) (N := 8) (ci := 6) C.1 C.2.1 C.2.2.2.1 inlX6 C.2.2.1 C.2.2.2.2.1 S.1 k he rfl 2 (by decide) ((C.2.2.2.1 _ hlink)) (fun _ h => h) rfl hdg kk
theorem gn_X6_2 (C : s_C G p s args m c own cc) (hlink : Cond.fieldLinkNest own idx "PhraseReader" "now" "LPhraseReader$Declarations;" "PhraseReader" ∈ nestW) (hk : s_kd k = 6) (S : s_St G σ H0 H locs) {q : Nat} (hf : s_fin k 2 = q) (hdg : decode cc pc = .ok (.getfield idx, 3)) (kk : W p l e R s m args below meth c H locs cells slots Q (F0 m (pc + 3) ls (.ref (G.2.2 + q) :: rest))) : W p l e R s m args below meth c H locs cells slots Q (F0 m pc ls (.ref (G.2.2 + k) :: rest)) := by
  subst hf
  have he := s_at G σ hk (by decide)
  rw [s_cl, s_cell, hk] at he
  exact va_getN (D := G.1) (cl := vwCl) (C := RX6) (T := TX6) (N := 8) (ci := 6) C.1 C.2.1 C.2.2.2.1 inlX6 C.2.2.1 C.2.2.2.2.1 S.1 k he rfl 2 (by decide) (va_Nw.use (nest_on (nest_is _ hlink)) (C.2.2.2.2.2 _ hlink)) (fun _ h => h) rfl hdg kk
theorem g_X6_3 (C : s_C G p s args m c own cc) (hlink : Cond.fieldLink own idx "PhraseReader" "history" "LPhraseReader$History;" ∈ wL) (hk : s_kd k = 6) (S : s_St G σ H0 H locs) {q : Nat} (hf : s_fin k 3 = q) (hdg : decode cc pc = .ok (.getfield idx, 3)) (kk : W p l e R s m args below meth c H locs cells slots Q (F0 m (pc + 3) ls (.ref (G.2.2 + q) :: rest))) : W p l e R s m args below meth c H locs cells slots Q (F0 m pc ls (.ref (G.2.2 + k) :: rest)) := by
  subst hf
  have he := s_at G σ hk (by decide)
  rw [s_cl, s_cell, hk] at he
  exact va_get (D := G.1) (cl := vwCl) (C := RX6) (T := TX6) (N := 8) (ci := 6) C.1 C.2.1 C.2.2.2.1 inlX6 C.2.2.1 C.2.2.2.2.1 S.1 k he rfl 3 (by decide) ((C.2.2.2.1 _ hlink)) (fun _ h => h) rfl hdg kk
theorem gn_X6_3 (C : s_C G p s args m c own cc) (hlink : Cond.fieldLinkNest own idx "PhraseReader" "history" "LPhraseReader$History;" "PhraseReader" ∈ nestW) (hk : s_kd k = 6) (S : s_St G σ H0 H locs) {q : Nat} (hf : s_fin k 3 = q) (hdg : decode cc pc = .ok (.getfield idx, 3)) (kk : W p l e R s m args below meth c H locs cells slots Q (F0 m (pc + 3) ls (.ref (G.2.2 + q) :: rest))) : W p l e R s m args below meth c H locs cells slots Q (F0 m pc ls (.ref (G.2.2 + k) :: rest)) := by
  subst hf
  have he := s_at G σ hk (by decide)
  rw [s_cl, s_cell, hk] at he
  exact va_getN (D := G.1) (cl := vwCl) (C := RX6) (T := TX6) (N := 8) (ci := 6) C.1 C.2.1 C.2.2.2.1 inlX6 C.2.2.1 C.2.2.2.2.1 S.1 k he rfl 3 (by decide) (va_Nw.use (nest_on (nest_is _ hlink)) (C.2.2.2.2.2 _ hlink)) (fun _ h => h) rfl hdg kk
theorem g_X6_4 (C : s_C G p s args m c own cc) (hlink : Cond.fieldLink own idx "PhraseReader" "images" "[LPhraseReader$Declarations;" ∈ wL) (hk : s_kd k = 6) (S : s_St G σ H0 H locs) {q : Nat} (hf : s_fin k 4 = q) (hdg : decode cc pc = .ok (.getfield idx, 3)) (kk : W p l e R s m args below meth c H locs cells slots Q (F0 m (pc + 3) ls (.ref (G.2.2 + q) :: rest))) : W p l e R s m args below meth c H locs cells slots Q (F0 m pc ls (.ref (G.2.2 + k) :: rest)) := by
  subst hf
  have he := s_at G σ hk (by decide)
  rw [s_cl, s_cell, hk] at he
  exact va_get (D := G.1) (cl := vwCl) (C := RX6) (T := TX6) (N := 8) (ci := 6) C.1 C.2.1 C.2.2.2.1 inlX6 C.2.2.1 C.2.2.2.2.1 S.1 k he rfl 4 (by decide) ((C.2.2.2.1 _ hlink)) (fun _ h => h) rfl hdg kk
theorem gn_X6_4 (C : s_C G p s args m c own cc) (hlink : Cond.fieldLinkNest own idx "PhraseReader" "images" "[LPhraseReader$Declarations;" "PhraseReader" ∈ nestW) (hk : s_kd k = 6) (S : s_St G σ H0 H locs) {q : Nat} (hf : s_fin k 4 = q) (hdg : decode cc pc = .ok (.getfield idx, 3)) (kk : W p l e R s m args below meth c H locs cells slots Q (F0 m (pc + 3) ls (.ref (G.2.2 + q) :: rest))) : W p l e R s m args below meth c H locs cells slots Q (F0 m pc ls (.ref (G.2.2 + k) :: rest)) := by
  subst hf
  have he := s_at G σ hk (by decide)
  rw [s_cl, s_cell, hk] at he
  exact va_getN (D := G.1) (cl := vwCl) (C := RX6) (T := TX6) (N := 8) (ci := 6) C.1 C.2.1 C.2.2.2.1 inlX6 C.2.2.1 C.2.2.2.2.1 S.1 k he rfl 4 (by decide) (va_Nw.use (nest_on (nest_is _ hlink)) (C.2.2.2.2.2 _ hlink)) (fun _ h => h) rfl hdg kk
theorem g_X6_5 (C : s_C G p s args m c own cc) (hlink : Cond.fieldLink own idx "PhraseReader" "kept" "[Z" ∈ wL) (hk : s_kd k = 6) (S : s_St G σ H0 H locs) {q : Nat} (hf : s_fin k 5 = q) (hdg : decode cc pc = .ok (.getfield idx, 3)) (kk : W p l e R s m args below meth c H locs cells slots Q (F0 m (pc + 3) ls (.ref (G.2.2 + q) :: rest))) : W p l e R s m args below meth c H locs cells slots Q (F0 m pc ls (.ref (G.2.2 + k) :: rest)) := by
  subst hf
  have he := s_at G σ hk (by decide)
  rw [s_cl, s_cell, hk] at he
  exact va_get (D := G.1) (cl := vwCl) (C := RX6) (T := TX6) (N := 8) (ci := 6) C.1 C.2.1 C.2.2.2.1 inlX6 C.2.2.1 C.2.2.2.2.1 S.1 k he rfl 5 (by decide) ((C.2.2.2.1 _ hlink)) (fun _ h => h) rfl hdg kk
theorem gn_X6_5 (C : s_C G p s args m c own cc) (hlink : Cond.fieldLinkNest own idx "PhraseReader" "kept" "[Z" "PhraseReader" ∈ nestW) (hk : s_kd k = 6) (S : s_St G σ H0 H locs) {q : Nat} (hf : s_fin k 5 = q) (hdg : decode cc pc = .ok (.getfield idx, 3)) (kk : W p l e R s m args below meth c H locs cells slots Q (F0 m (pc + 3) ls (.ref (G.2.2 + q) :: rest))) : W p l e R s m args below meth c H locs cells slots Q (F0 m pc ls (.ref (G.2.2 + k) :: rest)) := by
  subst hf
  have he := s_at G σ hk (by decide)
  rw [s_cl, s_cell, hk] at he
  exact va_getN (D := G.1) (cl := vwCl) (C := RX6) (T := TX6) (N := 8) (ci := 6) C.1 C.2.1 C.2.2.2.1 inlX6 C.2.2.1 C.2.2.2.2.1 S.1 k he rfl 5 (by decide) (va_Nw.use (nest_on (nest_is _ hlink)) (C.2.2.2.2.2 _ hlink)) (fun _ h => h) rfl hdg kk
theorem g_X6_6 (C : s_C G p s args m c own cc) (hlink : Cond.fieldLink own idx "PhraseReader" "reading" "LPhraseReader$Reading;" ∈ wL) (hk : s_kd k = 6) (S : s_St G σ H0 H locs) {q : Nat} (hf : s_fin k 6 = q) (hdg : decode cc pc = .ok (.getfield idx, 3)) (kk : W p l e R s m args below meth c H locs cells slots Q (F0 m (pc + 3) ls (.ref (G.2.2 + q) :: rest))) : W p l e R s m args below meth c H locs cells slots Q (F0 m pc ls (.ref (G.2.2 + k) :: rest)) := by
  subst hf
  have he := s_at G σ hk (by decide)
  rw [s_cl, s_cell, hk] at he
  exact va_get (D := G.1) (cl := vwCl) (C := RX6) (T := TX6) (N := 8) (ci := 6) C.1 C.2.1 C.2.2.2.1 inlX6 C.2.2.1 C.2.2.2.2.1 S.1 k he rfl 6 (by decide) ((C.2.2.2.1 _ hlink)) (fun _ h => h) rfl hdg kk
theorem gn_X6_6 (C : s_C G p s args m c own cc) (hlink : Cond.fieldLinkNest own idx "PhraseReader" "reading" "LPhraseReader$Reading;" "PhraseReader" ∈ nestW) (hk : s_kd k = 6) (S : s_St G σ H0 H locs) {q : Nat} (hf : s_fin k 6 = q) (hdg : decode cc pc = .ok (.getfield idx, 3)) (kk : W p l e R s m args below meth c H locs cells slots Q (F0 m (pc + 3) ls (.ref (G.2.2 + q) :: rest))) : W p l e R s m args below meth c H locs cells slots Q (F0 m pc ls (.ref (G.2.2 + k) :: rest)) := by
  subst hf
  have he := s_at G σ hk (by decide)
  rw [s_cl, s_cell, hk] at he
  exact va_getN (D := G.1) (cl := vwCl) (C := RX6) (T := TX6) (N := 8) (ci := 6) C.1 C.2.1 C.2.2.2.1 inlX6 C.2.2.1 C.2.2.2.2.1 S.1 k he rfl 6 (by decide) (va_Nw.use (nest_on (nest_is _ hlink)) (C.2.2.2.2.2 _ hlink)) (fun _ h => h) rfl hdg kk
theorem g_X6_7 (C : s_C G p s args m c own cc) (hlink : Cond.fieldLink own idx "PhraseReader" "orderTable" "LPhraseReader$OrderTable;" ∈ wL) (hk : s_kd k = 6) (S : s_St G σ H0 H locs) {q : Nat} (hf : s_fin k 7 = q) (hdg : decode cc pc = .ok (.getfield idx, 3)) (kk : W p l e R s m args below meth c H locs cells slots Q (F0 m (pc + 3) ls (.ref (G.2.2 + q) :: rest))) : W p l e R s m args below meth c H locs cells slots Q (F0 m pc ls (.ref (G.2.2 + k) :: rest)) := by
  subst hf
  have he := s_at G σ hk (by decide)
  rw [s_cl, s_cell, hk] at he
  exact va_get (D := G.1) (cl := vwCl) (C := RX6) (T := TX6) (N := 8) (ci := 6) C.1 C.2.1 C.2.2.2.1 inlX6 C.2.2.1 C.2.2.2.2.1 S.1 k he rfl 7 (by decide) ((C.2.2.2.1 _ hlink)) (fun _ h => h) rfl hdg kk
theorem gn_X6_7 (C : s_C G p s args m c own cc) (hlink : Cond.fieldLinkNest own idx "PhraseReader" "orderTable" "LPhraseReader$OrderTable;" "PhraseReader" ∈ nestW) (hk : s_kd k = 6) (S : s_St G σ H0 H locs) {q : Nat} (hf : s_fin k 7 = q) (hdg : decode cc pc = .ok (.getfield idx, 3)) (kk : W p l e R s m args below meth c H locs cells slots Q (F0 m (pc + 3) ls (.ref (G.2.2 + q) :: rest))) : W p l e R s m args below meth c H locs cells slots Q (F0 m pc ls (.ref (G.2.2 + k) :: rest)) := by
  subst hf
  have he := s_at G σ hk (by decide)
  rw [s_cl, s_cell, hk] at he
  exact va_getN (D := G.1) (cl := vwCl) (C := RX6) (T := TX6) (N := 8) (ci := 6) C.1 C.2.1 C.2.2.2.1 inlX6 C.2.2.1 C.2.2.2.2.1 S.1 k he rfl 7 (by decide) (va_Nw.use (nest_on (nest_is _ hlink)) (C.2.2.2.2.2 _ hlink)) (fun _ h => h) rfl hdg kk
theorem g_X7_0 (C : s_C G p s args m c own cc) (hlink : Cond.fieldLink own idx "PhraseReaderModel" "w" "[I" ∈ wL) (hk : s_kd k = 7) (S : s_St G σ H0 H locs) {q : Nat} (hf : s_fin k 0 = q) (hdg : decode cc pc = .ok (.getfield idx, 3)) (kk : W p l e R s m args below meth c H locs cells slots Q (F0 m (pc + 3) ls (.ref (G.2.2 + q) :: rest))) : W p l e R s m args below meth c H locs cells slots Q (F0 m pc ls (.ref (G.2.2 + k) :: rest)) := by
  subst hf
  have he := s_at G σ hk (by decide)
  rw [s_cl, s_cell, hk] at he
  exact va_get (D := G.1) (cl := vwCl) (C := RX7) (T := TX7) (N := 17) (ci := 7) C.1 C.2.1 C.2.2.2.1 inlX7 C.2.2.1 C.2.2.2.2.1 S.1 k he rfl 0 (by decide) ((C.2.2.2.1 _ hlink)) (fun _ h => h) rfl hdg kk
theorem gn_X7_0 (C : s_C G p s args m c own cc) (hlink : Cond.fieldLinkNest own idx "PhraseReaderModel" "w" "[I" "PhraseReader" ∈ nestW) (hk : s_kd k = 7) (S : s_St G σ H0 H locs) {q : Nat} (hf : s_fin k 0 = q) (hdg : decode cc pc = .ok (.getfield idx, 3)) (kk : W p l e R s m args below meth c H locs cells slots Q (F0 m (pc + 3) ls (.ref (G.2.2 + q) :: rest))) : W p l e R s m args below meth c H locs cells slots Q (F0 m pc ls (.ref (G.2.2 + k) :: rest)) := by
  subst hf
  have he := s_at G σ hk (by decide)
  rw [s_cl, s_cell, hk] at he
  exact va_getN (D := G.1) (cl := vwCl) (C := RX7) (T := TX7) (N := 17) (ci := 7) C.1 C.2.1 C.2.2.2.1 inlX7 C.2.2.1 C.2.2.2.2.1 S.1 k he rfl 0 (by decide) (va_Nw.use (nest_on (nest_is _ hlink)) (C.2.2.2.2.2 _ hlink)) (fun _ h => h) rfl hdg kk
theorem g_X7_1 (C : s_C G p s args m c own cc) (hlink : Cond.fieldLink own idx "PhraseReaderModel" "past" "[I" ∈ wL) (hk : s_kd k = 7) (S : s_St G σ H0 H locs) {q : Nat} (hf : s_fin k 1 = q) (hdg : decode cc pc = .ok (.getfield idx, 3)) (kk : W p l e R s m args below meth c H locs cells slots Q (F0 m (pc + 3) ls (.ref (G.2.2 + q) :: rest))) : W p l e R s m args below meth c H locs cells slots Q (F0 m pc ls (.ref (G.2.2 + k) :: rest)) := by
  subst hf
  have he := s_at G σ hk (by decide)
  rw [s_cl, s_cell, hk] at he
  exact va_get (D := G.1) (cl := vwCl) (C := RX7) (T := TX7) (N := 17) (ci := 7) C.1 C.2.1 C.2.2.2.1 inlX7 C.2.2.1 C.2.2.2.2.1 S.1 k he rfl 1 (by decide) ((C.2.2.2.1 _ hlink)) (fun _ h => h) rfl hdg kk
theorem gn_X7_1 (C : s_C G p s args m c own cc) (hlink : Cond.fieldLinkNest own idx "PhraseReaderModel" "past" "[I" "PhraseReader" ∈ nestW) (hk : s_kd k = 7) (S : s_St G σ H0 H locs) {q : Nat} (hf : s_fin k 1 = q) (hdg : decode cc pc = .ok (.getfield idx, 3)) (kk : W p l e R s m args below meth c H locs cells slots Q (F0 m (pc + 3) ls (.ref (G.2.2 + q) :: rest))) : W p l e R s m args below meth c H locs cells slots Q (F0 m pc ls (.ref (G.2.2 + k) :: rest)) := by
  subst hf
  have he := s_at G σ hk (by decide)
  rw [s_cl, s_cell, hk] at he
  exact va_getN (D := G.1) (cl := vwCl) (C := RX7) (T := TX7) (N := 17) (ci := 7) C.1 C.2.1 C.2.2.2.1 inlX7 C.2.2.1 C.2.2.2.2.1 S.1 k he rfl 1 (by decide) (va_Nw.use (nest_on (nest_is _ hlink)) (C.2.2.2.2.2 _ hlink)) (fun _ h => h) rfl hdg kk
theorem g_X7_2 (C : s_C G p s args m c own cc) (hlink : Cond.fieldLink own idx "PhraseReaderModel" "pastMany" "I" ∈ wL) (hk : s_kd k = 7) (S : s_St G σ H0 H locs) (hdg : decode cc pc = .ok (.getfield idx, 3)) (kk : W p l e R s m args below meth c H locs cells slots Q (F0 m (pc + 3) ls (.int (σ.1 k 2) :: rest))) : W p l e R s m args below meth c H locs cells slots Q (F0 m pc ls (.ref (G.2.2 + k) :: rest)) := by
  have he := s_at G σ hk (by decide)
  rw [s_cl, s_cell, hk] at he
  exact va_get (D := G.1) (cl := vwCl) (C := RX7) (T := TX7) (N := 17) (ci := 7) C.1 C.2.1 C.2.2.2.1 inlX7 C.2.2.1 C.2.2.2.2.1 S.1 k he rfl 2 (by decide) ((C.2.2.2.1 _ hlink)) (fun _ h => h) rfl hdg kk
theorem p_X7_2 (C : s_C G p s args m c own cc) (hlink : Cond.fieldLink own idx "PhraseReaderModel" "pastMany" "I" ∈ wL) (hk : s_kd k = 7) (S : s_St G σ H0 H locs) {v : Int32} (hdg : decode cc pc = .ok (.putfield idx, 3)) (kk : ∀ (σ1 : Sg) (H1 : Heap) (locs1 : List Loc), σ1 = setI σ k 2 v → s_St G σ1 H0 H1 locs1 → W p l e R s m args below meth c H1 locs1 cells slots Q (F0 m (pc + 3) ls rest)) : W p l e R s m args below meth c H locs cells slots Q (F0 m pc ls (.int v :: .ref (G.2.2 + k) :: rest)) := by
  have he := s_at G σ hk (by decide)
  rw [s_cl, s_cell, hk] at he
  refine va_put (D := G.1) (cl := vwCl) (ty := .int) (C := RX7) (T := TX7) (N := 17) (ci := 7) C.1 C.2.1 C.2.2.2.1 inlX7 tyX7 tyX7_ok nmX7 C.2.2.1 C.2.2.2.2.1 S.1 (s_D G σ) S.2.1 k he rfl 2 (by decide) ((C.2.2.2.1 _ hlink)) (fun _ h => h) rfl (by decide +kernel) rfl rfl (Nat.le_of_ble_eq_true rfl) hdg (fun H1 locs1 hP _ hS => ?_)
  refine kk _ H1 locs1 rfl ⟨?_, hS, s_rokI S.2.2 k 2 v⟩
  rw [s_set (G := G) (σ := σ) (σ' := setI σ k 2 v) (s_kd_lt hk (by decide)) (fun q hq => by show s_cell G (upd2 σ.1 k 2 v q) _ _ q = _; rw [upd2_ne hq]; rfl) (by show s_cell G (upd2 σ.1 k 2 v k) _ _ k = _; rw [s_cell, hk]; simp [upd2, setI])] at hP
  exact hP
theorem gn_X7_2 (C : s_C G p s args m c own cc) (hlink : Cond.fieldLinkNest own idx "PhraseReaderModel" "pastMany" "I" "PhraseReader" ∈ nestW) (hk : s_kd k = 7) (S : s_St G σ H0 H locs) (hdg : decode cc pc = .ok (.getfield idx, 3)) (kk : W p l e R s m args below meth c H locs cells slots Q (F0 m (pc + 3) ls (.int (σ.1 k 2) :: rest))) : W p l e R s m args below meth c H locs cells slots Q (F0 m pc ls (.ref (G.2.2 + k) :: rest)) := by
  have he := s_at G σ hk (by decide)
  rw [s_cl, s_cell, hk] at he
  exact va_getN (D := G.1) (cl := vwCl) (C := RX7) (T := TX7) (N := 17) (ci := 7) C.1 C.2.1 C.2.2.2.1 inlX7 C.2.2.1 C.2.2.2.2.1 S.1 k he rfl 2 (by decide) (va_Nw.use (nest_on (nest_is _ hlink)) (C.2.2.2.2.2 _ hlink)) (fun _ h => h) rfl hdg kk
theorem pn_X7_2 (C : s_C G p s args m c own cc) (hlink : Cond.fieldLinkNest own idx "PhraseReaderModel" "pastMany" "I" "PhraseReader" ∈ nestW) (hk : s_kd k = 7) (S : s_St G σ H0 H locs) {v : Int32} (hdg : decode cc pc = .ok (.putfield idx, 3)) (kk : ∀ (σ1 : Sg) (H1 : Heap) (locs1 : List Loc), σ1 = setI σ k 2 v → s_St G σ1 H0 H1 locs1 → W p l e R s m args below meth c H1 locs1 cells slots Q (F0 m (pc + 3) ls rest)) : W p l e R s m args below meth c H locs cells slots Q (F0 m pc ls (.int v :: .ref (G.2.2 + k) :: rest)) := by
  have he := s_at G σ hk (by decide)
  rw [s_cl, s_cell, hk] at he
  refine va_putN (D := G.1) (cl := vwCl) (ty := .int) (C := RX7) (T := TX7) (N := 17) (ci := 7) C.1 C.2.1 C.2.2.2.1 inlX7 tyX7 tyX7_ok nmX7 C.2.2.1 C.2.2.2.2.1 S.1 (s_D G σ) S.2.1 k he rfl 2 (by decide) (va_Nw.use (nest_on (nest_is _ hlink)) (C.2.2.2.2.2 _ hlink)) (fun _ h => h) rfl (by decide +kernel) rfl rfl (Nat.le_of_ble_eq_true rfl) hdg (fun H1 locs1 hP _ hS => ?_)
  refine kk _ H1 locs1 rfl ⟨?_, hS, s_rokI S.2.2 k 2 v⟩
  rw [s_set (G := G) (σ := σ) (σ' := setI σ k 2 v) (s_kd_lt hk (by decide)) (fun q hq => by show s_cell G (upd2 σ.1 k 2 v q) _ _ q = _; rw [upd2_ne hq]; rfl) (by show s_cell G (upd2 σ.1 k 2 v k) _ _ k = _; rw [s_cell, hk]; simp [upd2, setI])] at hP
  exact hP
theorem g_X7_3 (C : s_C G p s args m c own cc) (hlink : Cond.fieldLink own idx "PhraseReaderModel" "images" "[I" ∈ wL) (hk : s_kd k = 7) (S : s_St G σ H0 H locs) {q : Nat} (hf : s_fin k 3 = q) (hdg : decode cc pc = .ok (.getfield idx, 3)) (kk : W p l e R s m args below meth c H locs cells slots Q (F0 m (pc + 3) ls (.ref (G.2.2 + q) :: rest))) : W p l e R s m args below meth c H locs cells slots Q (F0 m pc ls (.ref (G.2.2 + k) :: rest)) := by
  subst hf
  have he := s_at G σ hk (by decide)
  rw [s_cl, s_cell, hk] at he
  exact va_get (D := G.1) (cl := vwCl) (C := RX7) (T := TX7) (N := 17) (ci := 7) C.1 C.2.1 C.2.2.2.1 inlX7 C.2.2.1 C.2.2.2.2.1 S.1 k he rfl 3 (by decide) ((C.2.2.2.1 _ hlink)) (fun _ h => h) rfl hdg kk
theorem gn_X7_3 (C : s_C G p s args m c own cc) (hlink : Cond.fieldLinkNest own idx "PhraseReaderModel" "images" "[I" "PhraseReader" ∈ nestW) (hk : s_kd k = 7) (S : s_St G σ H0 H locs) {q : Nat} (hf : s_fin k 3 = q) (hdg : decode cc pc = .ok (.getfield idx, 3)) (kk : W p l e R s m args below meth c H locs cells slots Q (F0 m (pc + 3) ls (.ref (G.2.2 + q) :: rest))) : W p l e R s m args below meth c H locs cells slots Q (F0 m pc ls (.ref (G.2.2 + k) :: rest)) := by
  subst hf
  have he := s_at G σ hk (by decide)
  rw [s_cl, s_cell, hk] at he
  exact va_getN (D := G.1) (cl := vwCl) (C := RX7) (T := TX7) (N := 17) (ci := 7) C.1 C.2.1 C.2.2.2.1 inlX7 C.2.2.1 C.2.2.2.2.1 S.1 k he rfl 3 (by decide) (va_Nw.use (nest_on (nest_is _ hlink)) (C.2.2.2.2.2 _ hlink)) (fun _ h => h) rfl hdg kk
theorem g_X7_4 (C : s_C G p s args m c own cc) (hlink : Cond.fieldLink own idx "PhraseReaderModel" "filled" "I" ∈ wL) (hk : s_kd k = 7) (S : s_St G σ H0 H locs) (hdg : decode cc pc = .ok (.getfield idx, 3)) (kk : W p l e R s m args below meth c H locs cells slots Q (F0 m (pc + 3) ls (.int (σ.1 k 4) :: rest))) : W p l e R s m args below meth c H locs cells slots Q (F0 m pc ls (.ref (G.2.2 + k) :: rest)) := by
  have he := s_at G σ hk (by decide)
  rw [s_cl, s_cell, hk] at he
  exact va_get (D := G.1) (cl := vwCl) (C := RX7) (T := TX7) (N := 17) (ci := 7) C.1 C.2.1 C.2.2.2.1 inlX7 C.2.2.1 C.2.2.2.2.1 S.1 k he rfl 4 (by decide) ((C.2.2.2.1 _ hlink)) (fun _ h => h) rfl hdg kk
theorem p_X7_4 (C : s_C G p s args m c own cc) (hlink : Cond.fieldLink own idx "PhraseReaderModel" "filled" "I" ∈ wL) (hk : s_kd k = 7) (S : s_St G σ H0 H locs) {v : Int32} (hdg : decode cc pc = .ok (.putfield idx, 3)) (kk : ∀ (σ1 : Sg) (H1 : Heap) (locs1 : List Loc), σ1 = setI σ k 4 v → s_St G σ1 H0 H1 locs1 → W p l e R s m args below meth c H1 locs1 cells slots Q (F0 m (pc + 3) ls rest)) : W p l e R s m args below meth c H locs cells slots Q (F0 m pc ls (.int v :: .ref (G.2.2 + k) :: rest)) := by
  have he := s_at G σ hk (by decide)
  rw [s_cl, s_cell, hk] at he
  refine va_put (D := G.1) (cl := vwCl) (ty := .int) (C := RX7) (T := TX7) (N := 17) (ci := 7) C.1 C.2.1 C.2.2.2.1 inlX7 tyX7 tyX7_ok nmX7 C.2.2.1 C.2.2.2.2.1 S.1 (s_D G σ) S.2.1 k he rfl 4 (by decide) ((C.2.2.2.1 _ hlink)) (fun _ h => h) rfl (by decide +kernel) rfl rfl (Nat.le_of_ble_eq_true rfl) hdg (fun H1 locs1 hP _ hS => ?_)
  refine kk _ H1 locs1 rfl ⟨?_, hS, s_rokI S.2.2 k 4 v⟩
  rw [s_set (G := G) (σ := σ) (σ' := setI σ k 4 v) (s_kd_lt hk (by decide)) (fun q hq => by show s_cell G (upd2 σ.1 k 4 v q) _ _ q = _; rw [upd2_ne hq]; rfl) (by show s_cell G (upd2 σ.1 k 4 v k) _ _ k = _; rw [s_cell, hk]; simp [upd2, setI])] at hP
  exact hP
theorem gn_X7_4 (C : s_C G p s args m c own cc) (hlink : Cond.fieldLinkNest own idx "PhraseReaderModel" "filled" "I" "PhraseReader" ∈ nestW) (hk : s_kd k = 7) (S : s_St G σ H0 H locs) (hdg : decode cc pc = .ok (.getfield idx, 3)) (kk : W p l e R s m args below meth c H locs cells slots Q (F0 m (pc + 3) ls (.int (σ.1 k 4) :: rest))) : W p l e R s m args below meth c H locs cells slots Q (F0 m pc ls (.ref (G.2.2 + k) :: rest)) := by
  have he := s_at G σ hk (by decide)
  rw [s_cl, s_cell, hk] at he
  exact va_getN (D := G.1) (cl := vwCl) (C := RX7) (T := TX7) (N := 17) (ci := 7) C.1 C.2.1 C.2.2.2.1 inlX7 C.2.2.1 C.2.2.2.2.1 S.1 k he rfl 4 (by decide) (va_Nw.use (nest_on (nest_is _ hlink)) (C.2.2.2.2.2 _ hlink)) (fun _ h => h) rfl hdg kk
theorem pn_X7_4 (C : s_C G p s args m c own cc) (hlink : Cond.fieldLinkNest own idx "PhraseReaderModel" "filled" "I" "PhraseReader" ∈ nestW) (hk : s_kd k = 7) (S : s_St G σ H0 H locs) {v : Int32} (hdg : decode cc pc = .ok (.putfield idx, 3)) (kk : ∀ (σ1 : Sg) (H1 : Heap) (locs1 : List Loc), σ1 = setI σ k 4 v → s_St G σ1 H0 H1 locs1 → W p l e R s m args below meth c H1 locs1 cells slots Q (F0 m (pc + 3) ls rest)) : W p l e R s m args below meth c H locs cells slots Q (F0 m pc ls (.int v :: .ref (G.2.2 + k) :: rest)) := by
  have he := s_at G σ hk (by decide)
  rw [s_cl, s_cell, hk] at he
  refine va_putN (D := G.1) (cl := vwCl) (ty := .int) (C := RX7) (T := TX7) (N := 17) (ci := 7) C.1 C.2.1 C.2.2.2.1 inlX7 tyX7 tyX7_ok nmX7 C.2.2.1 C.2.2.2.2.1 S.1 (s_D G σ) S.2.1 k he rfl 4 (by decide) (va_Nw.use (nest_on (nest_is _ hlink)) (C.2.2.2.2.2 _ hlink)) (fun _ h => h) rfl (by decide +kernel) rfl rfl (Nat.le_of_ble_eq_true rfl) hdg (fun H1 locs1 hP _ hS => ?_)
  refine kk _ H1 locs1 rfl ⟨?_, hS, s_rokI S.2.2 k 4 v⟩
  rw [s_set (G := G) (σ := σ) (σ' := setI σ k 4 v) (s_kd_lt hk (by decide)) (fun q hq => by show s_cell G (upd2 σ.1 k 4 v q) _ _ q = _; rw [upd2_ne hq]; rfl) (by show s_cell G (upd2 σ.1 k 4 v k) _ _ k = _; rw [s_cell, hk]; simp [upd2, setI])] at hP
  exact hP
theorem g_X7_5 (C : s_C G p s args m c own cc) (hlink : Cond.fieldLink own idx "PhraseReaderModel" "text" "[I" ∈ wL) (hk : s_kd k = 7) (S : s_St G σ H0 H locs) {q : Nat} (hf : s_fin k 5 = q) (hdg : decode cc pc = .ok (.getfield idx, 3)) (kk : W p l e R s m args below meth c H locs cells slots Q (F0 m (pc + 3) ls (.ref (G.2.2 + q) :: rest))) : W p l e R s m args below meth c H locs cells slots Q (F0 m pc ls (.ref (G.2.2 + k) :: rest)) := by
  subst hf
  have he := s_at G σ hk (by decide)
  rw [s_cl, s_cell, hk] at he
  exact va_get (D := G.1) (cl := vwCl) (C := RX7) (T := TX7) (N := 17) (ci := 7) C.1 C.2.1 C.2.2.2.1 inlX7 C.2.2.1 C.2.2.2.2.1 S.1 k he rfl 5 (by decide) ((C.2.2.2.1 _ hlink)) (fun _ h => h) rfl hdg kk
theorem gn_X7_5 (C : s_C G p s args m c own cc) (hlink : Cond.fieldLinkNest own idx "PhraseReaderModel" "text" "[I" "PhraseReader" ∈ nestW) (hk : s_kd k = 7) (S : s_St G σ H0 H locs) {q : Nat} (hf : s_fin k 5 = q) (hdg : decode cc pc = .ok (.getfield idx, 3)) (kk : W p l e R s m args below meth c H locs cells slots Q (F0 m (pc + 3) ls (.ref (G.2.2 + q) :: rest))) : W p l e R s m args below meth c H locs cells slots Q (F0 m pc ls (.ref (G.2.2 + k) :: rest)) := by
  subst hf
  have he := s_at G σ hk (by decide)
  rw [s_cl, s_cell, hk] at he
  exact va_getN (D := G.1) (cl := vwCl) (C := RX7) (T := TX7) (N := 17) (ci := 7) C.1 C.2.1 C.2.2.2.1 inlX7 C.2.2.1 C.2.2.2.2.1 S.1 k he rfl 5 (by decide) (va_Nw.use (nest_on (nest_is _ hlink)) (C.2.2.2.2.2 _ hlink)) (fun _ h => h) rfl hdg kk
theorem g_X7_6 (C : s_C G p s args m c own cc) (hlink : Cond.fieldLink own idx "PhraseReaderModel" "length" "I" ∈ wL) (hk : s_kd k = 7) (S : s_St G σ H0 H locs) (hdg : decode cc pc = .ok (.getfield idx, 3)) (kk : W p l e R s m args below meth c H locs cells slots Q (F0 m (pc + 3) ls (.int (σ.1 k 6) :: rest))) : W p l e R s m args below meth c H locs cells slots Q (F0 m pc ls (.ref (G.2.2 + k) :: rest)) := by
  have he := s_at G σ hk (by decide)
  rw [s_cl, s_cell, hk] at he
  exact va_get (D := G.1) (cl := vwCl) (C := RX7) (T := TX7) (N := 17) (ci := 7) C.1 C.2.1 C.2.2.2.1 inlX7 C.2.2.1 C.2.2.2.2.1 S.1 k he rfl 6 (by decide) ((C.2.2.2.1 _ hlink)) (fun _ h => h) rfl hdg kk
theorem p_X7_6 (C : s_C G p s args m c own cc) (hlink : Cond.fieldLink own idx "PhraseReaderModel" "length" "I" ∈ wL) (hk : s_kd k = 7) (S : s_St G σ H0 H locs) {v : Int32} (hdg : decode cc pc = .ok (.putfield idx, 3)) (kk : ∀ (σ1 : Sg) (H1 : Heap) (locs1 : List Loc), σ1 = setI σ k 6 v → s_St G σ1 H0 H1 locs1 → W p l e R s m args below meth c H1 locs1 cells slots Q (F0 m (pc + 3) ls rest)) : W p l e R s m args below meth c H locs cells slots Q (F0 m pc ls (.int v :: .ref (G.2.2 + k) :: rest)) := by
  have he := s_at G σ hk (by decide)
  rw [s_cl, s_cell, hk] at he
  refine va_put (D := G.1) (cl := vwCl) (ty := .int) (C := RX7) (T := TX7) (N := 17) (ci := 7) C.1 C.2.1 C.2.2.2.1 inlX7 tyX7 tyX7_ok nmX7 C.2.2.1 C.2.2.2.2.1 S.1 (s_D G σ) S.2.1 k he rfl 6 (by decide) ((C.2.2.2.1 _ hlink)) (fun _ h => h) rfl (by decide +kernel) rfl rfl (Nat.le_of_ble_eq_true rfl) hdg (fun H1 locs1 hP _ hS => ?_)
  refine kk _ H1 locs1 rfl ⟨?_, hS, s_rokI S.2.2 k 6 v⟩
  rw [s_set (G := G) (σ := σ) (σ' := setI σ k 6 v) (s_kd_lt hk (by decide)) (fun q hq => by show s_cell G (upd2 σ.1 k 6 v q) _ _ q = _; rw [upd2_ne hq]; rfl) (by show s_cell G (upd2 σ.1 k 6 v k) _ _ k = _; rw [s_cell, hk]; simp [upd2, setI])] at hP
  exact hP
theorem gn_X7_6 (C : s_C G p s args m c own cc) (hlink : Cond.fieldLinkNest own idx "PhraseReaderModel" "length" "I" "PhraseReader" ∈ nestW) (hk : s_kd k = 7) (S : s_St G σ H0 H locs) (hdg : decode cc pc = .ok (.getfield idx, 3)) (kk : W p l e R s m args below meth c H locs cells slots Q (F0 m (pc + 3) ls (.int (σ.1 k 6) :: rest))) : W p l e R s m args below meth c H locs cells slots Q (F0 m pc ls (.ref (G.2.2 + k) :: rest)) := by
  have he := s_at G σ hk (by decide)
  rw [s_cl, s_cell, hk] at he
  exact va_getN (D := G.1) (cl := vwCl) (C := RX7) (T := TX7) (N := 17) (ci := 7) C.1 C.2.1 C.2.2.2.1 inlX7 C.2.2.1 C.2.2.2.2.1 S.1 k he rfl 6 (by decide) (va_Nw.use (nest_on (nest_is _ hlink)) (C.2.2.2.2.2 _ hlink)) (fun _ h => h) rfl hdg kk
theorem pn_X7_6 (C : s_C G p s args m c own cc) (hlink : Cond.fieldLinkNest own idx "PhraseReaderModel" "length" "I" "PhraseReader" ∈ nestW) (hk : s_kd k = 7) (S : s_St G σ H0 H locs) {v : Int32} (hdg : decode cc pc = .ok (.putfield idx, 3)) (kk : ∀ (σ1 : Sg) (H1 : Heap) (locs1 : List Loc), σ1 = setI σ k 6 v → s_St G σ1 H0 H1 locs1 → W p l e R s m args below meth c H1 locs1 cells slots Q (F0 m (pc + 3) ls rest)) : W p l e R s m args below meth c H locs cells slots Q (F0 m pc ls (.int v :: .ref (G.2.2 + k) :: rest)) := by
  have he := s_at G σ hk (by decide)
  rw [s_cl, s_cell, hk] at he
  refine va_putN (D := G.1) (cl := vwCl) (ty := .int) (C := RX7) (T := TX7) (N := 17) (ci := 7) C.1 C.2.1 C.2.2.2.1 inlX7 tyX7 tyX7_ok nmX7 C.2.2.1 C.2.2.2.2.1 S.1 (s_D G σ) S.2.1 k he rfl 6 (by decide) (va_Nw.use (nest_on (nest_is _ hlink)) (C.2.2.2.2.2 _ hlink)) (fun _ h => h) rfl (by decide +kernel) rfl rfl (Nat.le_of_ble_eq_true rfl) hdg (fun H1 locs1 hP _ hS => ?_)
  refine kk _ H1 locs1 rfl ⟨?_, hS, s_rokI S.2.2 k 6 v⟩
  rw [s_set (G := G) (σ := σ) (σ' := setI σ k 6 v) (s_kd_lt hk (by decide)) (fun q hq => by show s_cell G (upd2 σ.1 k 6 v q) _ _ q = _; rw [upd2_ne hq]; rfl) (by show s_cell G (upd2 σ.1 k 6 v k) _ _ k = _; rw [s_cell, hk]; simp [upd2, setI])] at hP
  exact hP
theorem g_X7_7 (C : s_C G p s args m c own cc) (hlink : Cond.fieldLink own idx "PhraseReaderModel" "from" "[I" ∈ wL) (hk : s_kd k = 7) (S : s_St G σ H0 H locs) {q : Nat} (hf : s_fin k 7 = q) (hdg : decode cc pc = .ok (.getfield idx, 3)) (kk : W p l e R s m args below meth c H locs cells slots Q (F0 m (pc + 3) ls (.ref (G.2.2 + q) :: rest))) : W p l e R s m args below meth c H locs cells slots Q (F0 m pc ls (.ref (G.2.2 + k) :: rest)) := by
  subst hf
  have he := s_at G σ hk (by decide)
  rw [s_cl, s_cell, hk] at he
  exact va_get (D := G.1) (cl := vwCl) (C := RX7) (T := TX7) (N := 17) (ci := 7) C.1 C.2.1 C.2.2.2.1 inlX7 C.2.2.1 C.2.2.2.2.1 S.1 k he rfl 7 (by decide) ((C.2.2.2.1 _ hlink)) (fun _ h => h) rfl hdg kk
theorem gn_X7_7 (C : s_C G p s args m c own cc) (hlink : Cond.fieldLinkNest own idx "PhraseReaderModel" "from" "[I" "PhraseReader" ∈ nestW) (hk : s_kd k = 7) (S : s_St G σ H0 H locs) {q : Nat} (hf : s_fin k 7 = q) (hdg : decode cc pc = .ok (.getfield idx, 3)) (kk : W p l e R s m args below meth c H locs cells slots Q (F0 m (pc + 3) ls (.ref (G.2.2 + q) :: rest))) : W p l e R s m args below meth c H locs cells slots Q (F0 m pc ls (.ref (G.2.2 + k) :: rest)) := by
  subst hf
  have he := s_at G σ hk (by decide)
  rw [s_cl, s_cell, hk] at he
  exact va_getN (D := G.1) (cl := vwCl) (C := RX7) (T := TX7) (N := 17) (ci := 7) C.1 C.2.1 C.2.2.2.1 inlX7 C.2.2.1 C.2.2.2.2.1 S.1 k he rfl 7 (by decide) (va_Nw.use (nest_on (nest_is _ hlink)) (C.2.2.2.2.2 _ hlink)) (fun _ h => h) rfl hdg kk
theorem g_X7_8 (C : s_C G p s args m c own cc) (hlink : Cond.fieldLink own idx "PhraseReaderModel" "isReached" "[Z" ∈ wL) (hk : s_kd k = 7) (S : s_St G σ H0 H locs) {q : Nat} (hf : s_fin k 8 = q) (hdg : decode cc pc = .ok (.getfield idx, 3)) (kk : W p l e R s m args below meth c H locs cells slots Q (F0 m (pc + 3) ls (.ref (G.2.2 + q) :: rest))) : W p l e R s m args below meth c H locs cells slots Q (F0 m pc ls (.ref (G.2.2 + k) :: rest)) := by
  subst hf
  have he := s_at G σ hk (by decide)
  rw [s_cl, s_cell, hk] at he
  exact va_get (D := G.1) (cl := vwCl) (C := RX7) (T := TX7) (N := 17) (ci := 7) C.1 C.2.1 C.2.2.2.1 inlX7 C.2.2.1 C.2.2.2.2.1 S.1 k he rfl 8 (by decide) ((C.2.2.2.1 _ hlink)) (fun _ h => h) rfl hdg kk
theorem gn_X7_8 (C : s_C G p s args m c own cc) (hlink : Cond.fieldLinkNest own idx "PhraseReaderModel" "isReached" "[Z" "PhraseReader" ∈ nestW) (hk : s_kd k = 7) (S : s_St G σ H0 H locs) {q : Nat} (hf : s_fin k 8 = q) (hdg : decode cc pc = .ok (.getfield idx, 3)) (kk : W p l e R s m args below meth c H locs cells slots Q (F0 m (pc + 3) ls (.ref (G.2.2 + q) :: rest))) : W p l e R s m args below meth c H locs cells slots Q (F0 m pc ls (.ref (G.2.2 + k) :: rest)) := by
  subst hf
  have he := s_at G σ hk (by decide)
  rw [s_cl, s_cell, hk] at he
  exact va_getN (D := G.1) (cl := vwCl) (C := RX7) (T := TX7) (N := 17) (ci := 7) C.1 C.2.1 C.2.2.2.1 inlX7 C.2.2.1 C.2.2.2.2.1 S.1 k he rfl 8 (by decide) (va_Nw.use (nest_on (nest_is _ hlink)) (C.2.2.2.2.2 _ hlink)) (fun _ h => h) rfl hdg kk
theorem g_X7_9 (C : s_C G p s args m c own cc) (hlink : Cond.fieldLink own idx "PhraseReaderModel" "ways" "[I" ∈ wL) (hk : s_kd k = 7) (S : s_St G σ H0 H locs) {q : Nat} (hf : s_fin k 9 = q) (hdg : decode cc pc = .ok (.getfield idx, 3)) (kk : W p l e R s m args below meth c H locs cells slots Q (F0 m (pc + 3) ls (.ref (G.2.2 + q) :: rest))) : W p l e R s m args below meth c H locs cells slots Q (F0 m pc ls (.ref (G.2.2 + k) :: rest)) := by
  subst hf
  have he := s_at G σ hk (by decide)
  rw [s_cl, s_cell, hk] at he
  exact va_get (D := G.1) (cl := vwCl) (C := RX7) (T := TX7) (N := 17) (ci := 7) C.1 C.2.1 C.2.2.2.1 inlX7 C.2.2.1 C.2.2.2.2.1 S.1 k he rfl 9 (by decide) ((C.2.2.2.1 _ hlink)) (fun _ h => h) rfl hdg kk
theorem gn_X7_9 (C : s_C G p s args m c own cc) (hlink : Cond.fieldLinkNest own idx "PhraseReaderModel" "ways" "[I" "PhraseReader" ∈ nestW) (hk : s_kd k = 7) (S : s_St G σ H0 H locs) {q : Nat} (hf : s_fin k 9 = q) (hdg : decode cc pc = .ok (.getfield idx, 3)) (kk : W p l e R s m args below meth c H locs cells slots Q (F0 m (pc + 3) ls (.ref (G.2.2 + q) :: rest))) : W p l e R s m args below meth c H locs cells slots Q (F0 m pc ls (.ref (G.2.2 + k) :: rest)) := by
  subst hf
  have he := s_at G σ hk (by decide)
  rw [s_cl, s_cell, hk] at he
  exact va_getN (D := G.1) (cl := vwCl) (C := RX7) (T := TX7) (N := 17) (ci := 7) C.1 C.2.1 C.2.2.2.1 inlX7 C.2.2.1 C.2.2.2.2.1 S.1 k he rfl 9 (by decide) (va_Nw.use (nest_on (nest_is _ hlink)) (C.2.2.2.2.2 _ hlink)) (fun _ h => h) rfl hdg kk
theorem g_X7_10 (C : s_C G p s args m c own cc) (hlink : Cond.fieldLink own idx "PhraseReaderModel" "isLaid" "Z" ∈ wL) (hk : s_kd k = 7) (S : s_St G σ H0 H locs) (hdg : decode cc pc = .ok (.getfield idx, 3)) (kk : W p l e R s m args below meth c H locs cells slots Q (F0 m (pc + 3) ls (.int (σ.1 k 10) :: rest))) : W p l e R s m args below meth c H locs cells slots Q (F0 m pc ls (.ref (G.2.2 + k) :: rest)) := by
  have he := s_at G σ hk (by decide)
  rw [s_cl, s_cell, hk] at he
  exact va_get (D := G.1) (cl := vwCl) (C := RX7) (T := TX7) (N := 17) (ci := 7) C.1 C.2.1 C.2.2.2.1 inlX7 C.2.2.1 C.2.2.2.2.1 S.1 k he rfl 10 (by decide) ((C.2.2.2.1 _ hlink)) (fun _ h => h) rfl hdg kk
theorem p_X7_10 (C : s_C G p s args m c own cc) (hlink : Cond.fieldLink own idx "PhraseReaderModel" "isLaid" "Z" ∈ wL) (hk : s_kd k = 7) (S : s_St G σ H0 H locs) {v : Int32} (hn : narrow .boolean (.int v) = .int v) (hfit : fits .boolean (.int v) = true) (hdg : decode cc pc = .ok (.putfield idx, 3)) (kk : ∀ (σ1 : Sg) (H1 : Heap) (locs1 : List Loc), σ1 = setI σ k 10 v → s_St G σ1 H0 H1 locs1 → W p l e R s m args below meth c H1 locs1 cells slots Q (F0 m (pc + 3) ls rest)) : W p l e R s m args below meth c H locs cells slots Q (F0 m pc ls (.int v :: .ref (G.2.2 + k) :: rest)) := by
  have he := s_at G σ hk (by decide)
  rw [s_cl, s_cell, hk] at he
  refine va_put (D := G.1) (cl := vwCl) (ty := .boolean) (C := RX7) (T := TX7) (N := 17) (ci := 7) C.1 C.2.1 C.2.2.2.1 inlX7 tyX7 tyX7_ok nmX7 C.2.2.1 C.2.2.2.2.1 S.1 (s_D G σ) S.2.1 k he rfl 10 (by decide) ((C.2.2.2.1 _ hlink)) (fun _ h => h) rfl (by decide +kernel) hn hfit (Nat.le_of_ble_eq_true rfl) hdg (fun H1 locs1 hP _ hS => ?_)
  refine kk _ H1 locs1 rfl ⟨?_, hS, s_rokI S.2.2 k 10 v⟩
  rw [s_set (G := G) (σ := σ) (σ' := setI σ k 10 v) (s_kd_lt hk (by decide)) (fun q hq => by show s_cell G (upd2 σ.1 k 10 v q) _ _ q = _; rw [upd2_ne hq]; rfl) (by show s_cell G (upd2 σ.1 k 10 v k) _ _ k = _; rw [s_cell, hk]; simp [upd2, setI])] at hP
  exact hP
theorem gn_X7_10 (C : s_C G p s args m c own cc) (hlink : Cond.fieldLinkNest own idx "PhraseReaderModel" "isLaid" "Z" "PhraseReader" ∈ nestW) (hk : s_kd k = 7) (S : s_St G σ H0 H locs) (hdg : decode cc pc = .ok (.getfield idx, 3)) (kk : W p l e R s m args below meth c H locs cells slots Q (F0 m (pc + 3) ls (.int (σ.1 k 10) :: rest))) : W p l e R s m args below meth c H locs cells slots Q (F0 m pc ls (.ref (G.2.2 + k) :: rest)) := by
  have he := s_at G σ hk (by decide)
  rw [s_cl, s_cell, hk] at he
  exact va_getN (D := G.1) (cl := vwCl) (C := RX7) (T := TX7) (N := 17) (ci := 7) C.1 C.2.1 C.2.2.2.1 inlX7 C.2.2.1 C.2.2.2.2.1 S.1 k he rfl 10 (by decide) (va_Nw.use (nest_on (nest_is _ hlink)) (C.2.2.2.2.2 _ hlink)) (fun _ h => h) rfl hdg kk
theorem pn_X7_10 (C : s_C G p s args m c own cc) (hlink : Cond.fieldLinkNest own idx "PhraseReaderModel" "isLaid" "Z" "PhraseReader" ∈ nestW) (hk : s_kd k = 7) (S : s_St G σ H0 H locs) {v : Int32} (hn : narrow .boolean (.int v) = .int v) (hfit : fits .boolean (.int v) = true) (hdg : decode cc pc = .ok (.putfield idx, 3)) (kk : ∀ (σ1 : Sg) (H1 : Heap) (locs1 : List Loc), σ1 = setI σ k 10 v → s_St G σ1 H0 H1 locs1 → W p l e R s m args below meth c H1 locs1 cells slots Q (F0 m (pc + 3) ls rest)) : W p l e R s m args below meth c H locs cells slots Q (F0 m pc ls (.int v :: .ref (G.2.2 + k) :: rest)) := by
  have he := s_at G σ hk (by decide)
  rw [s_cl, s_cell, hk] at he
  refine va_putN (D := G.1) (cl := vwCl) (ty := .boolean) (C := RX7) (T := TX7) (N := 17) (ci := 7) C.1 C.2.1 C.2.2.2.1 inlX7 tyX7 tyX7_ok nmX7 C.2.2.1 C.2.2.2.2.1 S.1 (s_D G σ) S.2.1 k he rfl 10 (by decide) (va_Nw.use (nest_on (nest_is _ hlink)) (C.2.2.2.2.2 _ hlink)) (fun _ h => h) rfl (by decide +kernel) hn hfit (Nat.le_of_ble_eq_true rfl) hdg (fun H1 locs1 hP _ hS => ?_)
  refine kk _ H1 locs1 rfl ⟨?_, hS, s_rokI S.2.2 k 10 v⟩
  rw [s_set (G := G) (σ := σ) (σ' := setI σ k 10 v) (s_kd_lt hk (by decide)) (fun q hq => by show s_cell G (upd2 σ.1 k 10 v q) _ _ q = _; rw [upd2_ne hq]; rfl) (by show s_cell G (upd2 σ.1 k 10 v k) _ _ k = _; rw [s_cell, hk]; simp [upd2, setI])] at hP
  exact hP
theorem g_X7_11 (C : s_C G p s args m c own cc) (hlink : Cond.fieldLink own idx "PhraseReaderModel" "members" "[I" ∈ wL) (hk : s_kd k = 7) (S : s_St G σ H0 H locs) {q : Nat} (hf : s_fin k 11 = q) (hdg : decode cc pc = .ok (.getfield idx, 3)) (kk : W p l e R s m args below meth c H locs cells slots Q (F0 m (pc + 3) ls (.ref (G.2.2 + q) :: rest))) : W p l e R s m args below meth c H locs cells slots Q (F0 m pc ls (.ref (G.2.2 + k) :: rest)) := by
  subst hf
  have he := s_at G σ hk (by decide)
  rw [s_cl, s_cell, hk] at he
  exact va_get (D := G.1) (cl := vwCl) (C := RX7) (T := TX7) (N := 17) (ci := 7) C.1 C.2.1 C.2.2.2.1 inlX7 C.2.2.1 C.2.2.2.2.1 S.1 k he rfl 11 (by decide) ((C.2.2.2.1 _ hlink)) (fun _ h => h) rfl hdg kk
theorem gn_X7_11 (C : s_C G p s args m c own cc) (hlink : Cond.fieldLinkNest own idx "PhraseReaderModel" "members" "[I" "PhraseReader" ∈ nestW) (hk : s_kd k = 7) (S : s_St G σ H0 H locs) {q : Nat} (hf : s_fin k 11 = q) (hdg : decode cc pc = .ok (.getfield idx, 3)) (kk : W p l e R s m args below meth c H locs cells slots Q (F0 m (pc + 3) ls (.ref (G.2.2 + q) :: rest))) : W p l e R s m args below meth c H locs cells slots Q (F0 m pc ls (.ref (G.2.2 + k) :: rest)) := by
  subst hf
  have he := s_at G σ hk (by decide)
  rw [s_cl, s_cell, hk] at he
  exact va_getN (D := G.1) (cl := vwCl) (C := RX7) (T := TX7) (N := 17) (ci := 7) C.1 C.2.1 C.2.2.2.1 inlX7 C.2.2.1 C.2.2.2.2.1 S.1 k he rfl 11 (by decide) (va_Nw.use (nest_on (nest_is _ hlink)) (C.2.2.2.2.2 _ hlink)) (fun _ h => h) rfl hdg kk
theorem g_X7_12 (C : s_C G p s args m c own cc) (hlink : Cond.fieldLink own idx "PhraseReaderModel" "places" "[I" ∈ wL) (hk : s_kd k = 7) (S : s_St G σ H0 H locs) {q : Nat} (hf : s_fin k 12 = q) (hdg : decode cc pc = .ok (.getfield idx, 3)) (kk : W p l e R s m args below meth c H locs cells slots Q (F0 m (pc + 3) ls (.ref (G.2.2 + q) :: rest))) : W p l e R s m args below meth c H locs cells slots Q (F0 m pc ls (.ref (G.2.2 + k) :: rest)) := by
  subst hf
  have he := s_at G σ hk (by decide)
  rw [s_cl, s_cell, hk] at he
  exact va_get (D := G.1) (cl := vwCl) (C := RX7) (T := TX7) (N := 17) (ci := 7) C.1 C.2.1 C.2.2.2.1 inlX7 C.2.2.1 C.2.2.2.2.1 S.1 k he rfl 12 (by decide) ((C.2.2.2.1 _ hlink)) (fun _ h => h) rfl hdg kk
theorem gn_X7_12 (C : s_C G p s args m c own cc) (hlink : Cond.fieldLinkNest own idx "PhraseReaderModel" "places" "[I" "PhraseReader" ∈ nestW) (hk : s_kd k = 7) (S : s_St G σ H0 H locs) {q : Nat} (hf : s_fin k 12 = q) (hdg : decode cc pc = .ok (.getfield idx, 3)) (kk : W p l e R s m args below meth c H locs cells slots Q (F0 m (pc + 3) ls (.ref (G.2.2 + q) :: rest))) : W p l e R s m args below meth c H locs cells slots Q (F0 m pc ls (.ref (G.2.2 + k) :: rest)) := by
  subst hf
  have he := s_at G σ hk (by decide)
  rw [s_cl, s_cell, hk] at he
  exact va_getN (D := G.1) (cl := vwCl) (C := RX7) (T := TX7) (N := 17) (ci := 7) C.1 C.2.1 C.2.2.2.1 inlX7 C.2.2.1 C.2.2.2.2.1 S.1 k he rfl 12 (by decide) (va_Nw.use (nest_on (nest_is _ hlink)) (C.2.2.2.2.2 _ hlink)) (fun _ h => h) rfl hdg kk
theorem g_X7_13 (C : s_C G p s args m c own cc) (hlink : Cond.fieldLink own idx "PhraseReaderModel" "values" "[I" ∈ wL) (hk : s_kd k = 7) (S : s_St G σ H0 H locs) {q : Nat} (hf : s_fin k 13 = q) (hdg : decode cc pc = .ok (.getfield idx, 3)) (kk : W p l e R s m args below meth c H locs cells slots Q (F0 m (pc + 3) ls (.ref (G.2.2 + q) :: rest))) : W p l e R s m args below meth c H locs cells slots Q (F0 m pc ls (.ref (G.2.2 + k) :: rest)) := by
  subst hf
  have he := s_at G σ hk (by decide)
  rw [s_cl, s_cell, hk] at he
  exact va_get (D := G.1) (cl := vwCl) (C := RX7) (T := TX7) (N := 17) (ci := 7) C.1 C.2.1 C.2.2.2.1 inlX7 C.2.2.1 C.2.2.2.2.1 S.1 k he rfl 13 (by decide) ((C.2.2.2.1 _ hlink)) (fun _ h => h) rfl hdg kk
theorem gn_X7_13 (C : s_C G p s args m c own cc) (hlink : Cond.fieldLinkNest own idx "PhraseReaderModel" "values" "[I" "PhraseReader" ∈ nestW) (hk : s_kd k = 7) (S : s_St G σ H0 H locs) {q : Nat} (hf : s_fin k 13 = q) (hdg : decode cc pc = .ok (.getfield idx, 3)) (kk : W p l e R s m args below meth c H locs cells slots Q (F0 m (pc + 3) ls (.ref (G.2.2 + q) :: rest))) : W p l e R s m args below meth c H locs cells slots Q (F0 m pc ls (.ref (G.2.2 + k) :: rest)) := by
  subst hf
  have he := s_at G σ hk (by decide)
  rw [s_cl, s_cell, hk] at he
  exact va_getN (D := G.1) (cl := vwCl) (C := RX7) (T := TX7) (N := 17) (ci := 7) C.1 C.2.1 C.2.2.2.1 inlX7 C.2.2.1 C.2.2.2.2.1 S.1 k he rfl 13 (by decide) (va_Nw.use (nest_on (nest_is _ hlink)) (C.2.2.2.2.2 _ hlink)) (fun _ h => h) rfl hdg kk
theorem g_X7_14 (C : s_C G p s args m c own cc) (hlink : Cond.fieldLink own idx "PhraseReaderModel" "form" "[I" ∈ wL) (hk : s_kd k = 7) (S : s_St G σ H0 H locs) {q : Nat} (hf : s_fin k 14 = q) (hdg : decode cc pc = .ok (.getfield idx, 3)) (kk : W p l e R s m args below meth c H locs cells slots Q (F0 m (pc + 3) ls (.ref (G.2.2 + q) :: rest))) : W p l e R s m args below meth c H locs cells slots Q (F0 m pc ls (.ref (G.2.2 + k) :: rest)) := by
  subst hf
  have he := s_at G σ hk (by decide)
  rw [s_cl, s_cell, hk] at he
  exact va_get (D := G.1) (cl := vwCl) (C := RX7) (T := TX7) (N := 17) (ci := 7) C.1 C.2.1 C.2.2.2.1 inlX7 C.2.2.1 C.2.2.2.2.1 S.1 k he rfl 14 (by decide) ((C.2.2.2.1 _ hlink)) (fun _ h => h) rfl hdg kk
theorem gn_X7_14 (C : s_C G p s args m c own cc) (hlink : Cond.fieldLinkNest own idx "PhraseReaderModel" "form" "[I" "PhraseReader" ∈ nestW) (hk : s_kd k = 7) (S : s_St G σ H0 H locs) {q : Nat} (hf : s_fin k 14 = q) (hdg : decode cc pc = .ok (.getfield idx, 3)) (kk : W p l e R s m args below meth c H locs cells slots Q (F0 m (pc + 3) ls (.ref (G.2.2 + q) :: rest))) : W p l e R s m args below meth c H locs cells slots Q (F0 m pc ls (.ref (G.2.2 + k) :: rest)) := by
  subst hf
  have he := s_at G σ hk (by decide)
  rw [s_cl, s_cell, hk] at he
  exact va_getN (D := G.1) (cl := vwCl) (C := RX7) (T := TX7) (N := 17) (ci := 7) C.1 C.2.1 C.2.2.2.1 inlX7 C.2.2.1 C.2.2.2.2.1 S.1 k he rfl 14 (by decide) (va_Nw.use (nest_on (nest_is _ hlink)) (C.2.2.2.2.2 _ hlink)) (fun _ h => h) rfl hdg kk
theorem g_X7_15 (C : s_C G p s args m c own cc) (hlink : Cond.fieldLink own idx "PhraseReaderModel" "ahead" "[J" ∈ wL) (hk : s_kd k = 7) (S : s_St G σ H0 H locs) {q : Nat} (hf : s_fin k 15 = q) (hdg : decode cc pc = .ok (.getfield idx, 3)) (kk : W p l e R s m args below meth c H locs cells slots Q (F0 m (pc + 3) ls (.ref (G.2.2 + q) :: rest))) : W p l e R s m args below meth c H locs cells slots Q (F0 m pc ls (.ref (G.2.2 + k) :: rest)) := by
  subst hf
  have he := s_at G σ hk (by decide)
  rw [s_cl, s_cell, hk] at he
  exact va_get (D := G.1) (cl := vwCl) (C := RX7) (T := TX7) (N := 17) (ci := 7) C.1 C.2.1 C.2.2.2.1 inlX7 C.2.2.1 C.2.2.2.2.1 S.1 k he rfl 15 (by decide) ((C.2.2.2.1 _ hlink)) (fun _ h => h) rfl hdg kk
theorem gn_X7_15 (C : s_C G p s args m c own cc) (hlink : Cond.fieldLinkNest own idx "PhraseReaderModel" "ahead" "[J" "PhraseReader" ∈ nestW) (hk : s_kd k = 7) (S : s_St G σ H0 H locs) {q : Nat} (hf : s_fin k 15 = q) (hdg : decode cc pc = .ok (.getfield idx, 3)) (kk : W p l e R s m args below meth c H locs cells slots Q (F0 m (pc + 3) ls (.ref (G.2.2 + q) :: rest))) : W p l e R s m args below meth c H locs cells slots Q (F0 m pc ls (.ref (G.2.2 + k) :: rest)) := by
  subst hf
  have he := s_at G σ hk (by decide)
  rw [s_cl, s_cell, hk] at he
  exact va_getN (D := G.1) (cl := vwCl) (C := RX7) (T := TX7) (N := 17) (ci := 7) C.1 C.2.1 C.2.2.2.1 inlX7 C.2.2.1 C.2.2.2.2.1 S.1 k he rfl 15 (by decide) (va_Nw.use (nest_on (nest_is _ hlink)) (C.2.2.2.2.2 _ hlink)) (fun _ h => h) rfl hdg kk
theorem g_X7_16 (C : s_C G p s args m c own cc) (hlink : Cond.fieldLink own idx "PhraseReaderModel" "behind" "[J" ∈ wL) (hk : s_kd k = 7) (S : s_St G σ H0 H locs) {q : Nat} (hf : s_fin k 16 = q) (hdg : decode cc pc = .ok (.getfield idx, 3)) (kk : W p l e R s m args below meth c H locs cells slots Q (F0 m (pc + 3) ls (.ref (G.2.2 + q) :: rest))) : W p l e R s m args below meth c H locs cells slots Q (F0 m pc ls (.ref (G.2.2 + k) :: rest)) := by
  subst hf
  have he := s_at G σ hk (by decide)
  rw [s_cl, s_cell, hk] at he
  exact va_get (D := G.1) (cl := vwCl) (C := RX7) (T := TX7) (N := 17) (ci := 7) C.1 C.2.1 C.2.2.2.1 inlX7 C.2.2.1 C.2.2.2.2.1 S.1 k he rfl 16 (by decide) ((C.2.2.2.1 _ hlink)) (fun _ h => h) rfl hdg kk
theorem gn_X7_16 (C : s_C G p s args m c own cc) (hlink : Cond.fieldLinkNest own idx "PhraseReaderModel" "behind" "[J" "PhraseReader" ∈ nestW) (hk : s_kd k = 7) (S : s_St G σ H0 H locs) {q : Nat} (hf : s_fin k 16 = q) (hdg : decode cc pc = .ok (.getfield idx, 3)) (kk : W p l e R s m args below meth c H locs cells slots Q (F0 m (pc + 3) ls (.ref (G.2.2 + q) :: rest))) : W p l e R s m args below meth c H locs cells slots Q (F0 m pc ls (.ref (G.2.2 + k) :: rest)) := by
  subst hf
  have he := s_at G σ hk (by decide)
  rw [s_cl, s_cell, hk] at he
  exact va_getN (D := G.1) (cl := vwCl) (C := RX7) (T := TX7) (N := 17) (ci := 7) C.1 C.2.1 C.2.2.2.1 inlX7 C.2.2.1 C.2.2.2.2.1 S.1 k he rfl 16 (by decide) (va_Nw.use (nest_on (nest_is _ hlink)) (C.2.2.2.2.2 _ hlink)) (fun _ h => h) rfl hdg kk
theorem a_ild (C : s_C G p s args m c own cc) (hk : s_kd k = 8) (S : s_St G σ H0 H locs) {i : Int32} {n : Nat} (hn : s_len k = n) (hin : vp_in i n) (hdg : decode cc pc = .ok (.iaload, 1)) (kk : W p l e R s m args below meth c H locs cells slots Q (F0 m (pc + 1) ls (.int (σ.1 k i.toNatClampNeg) :: rest))) : W p l e R s m args below meth c H locs cells slots Q (F0 m pc ls (.int i :: .ref (G.2.2 + k) :: rest)) := by
  subst hn
  have he := s_at G σ hk (by decide)
  rw [s_cl, s_cell, hk] at he
  exact va_iald (D := G.1) (cl := vwCl) C.1 C.2.1 C.2.2.2.2.1 S.1 k 0 he rfl hin hdg kk
theorem a_lld (C : s_C G p s args m c own cc) (hk : s_kd k = 9) (S : s_St G σ H0 H locs) {i : Int32} {n : Nat} (hn : s_len k = n) (hin : vp_in i n) (hdg : decode cc pc = .ok (.laload, 1)) (kk : W p l e R s m args below meth c H locs cells slots Q (F0 m (pc + 1) ls (.long (σ.2.1 k i.toNatClampNeg) :: rest))) : W p l e R s m args below meth c H locs cells slots Q (F0 m pc ls (.int i :: .ref (G.2.2 + k) :: rest)) := by
  subst hn
  have he := s_at G σ hk (by decide)
  rw [s_cl, s_cell, hk] at he
  exact va_lald (D := G.1) (cl := vwCl) C.1 C.2.1 C.2.2.2.2.1 S.1 k 1 he rfl hin hdg kk
theorem a_zld (C : s_C G p s args m c own cc) (hk : s_kd k = 10) (S : s_St G σ H0 H locs) {i : Int32} {n : Nat} (hn : s_len k = n) (hin : vp_in i n) (hdg : decode cc pc = .ok (.baload, 1)) (kk : W p l e R s m args below meth c H locs cells slots Q (F0 m (pc + 1) ls (.int (σ.1 k i.toNatClampNeg) :: rest))) : W p l e R s m args below meth c H locs cells slots Q (F0 m pc ls (.int i :: .ref (G.2.2 + k) :: rest)) := by
  subst hn
  have he := s_at G σ hk (by decide)
  rw [s_cl, s_cell, hk] at he
  exact va_zald (D := G.1) (cl := vwCl) C.1 C.2.1 C.2.2.2.2.1 S.1 k 2 he rfl hin hdg kk
theorem a_mld (C : s_C G p s args m c own cc) (hk : s_kd k = 11) (S : s_St G σ H0 H locs) {i : Int32} {n : Nat} (hn : s_len k = n) (hin : vp_in i n) (hdg : decode cc pc = .ok (.aaload, 1)) (kk : W p l e R s m args below meth c H locs cells slots Q (F0 m (pc + 1) ls (.ref (G.2.2 + σ.2.2 k i.toNatClampNeg) :: rest))) : W p l e R s m args below meth c H locs cells slots Q (F0 m pc ls (.int i :: .ref (G.2.2 + k) :: rest)) := by
  subst hn
  have he := s_at G σ hk (by decide)
  rw [s_cl, s_cell, hk] at he
  exact va_aldq (D := G.1) (cl := vwCl) C.1 C.2.1 C.2.2.2.2.1 S.1 k 3 he rfl hin hdg kk
theorem a_dld (C : s_C G p s args m c own cc) (hk : s_kd k = 12) (S : s_St G σ H0 H locs) {i : Int32} {n : Nat} (hn : s_len k = n) (hin : vp_in i n) (hdg : decode cc pc = .ok (.aaload, 1)) (kk : W p l e R s m args below meth c H locs cells slots Q (F0 m (pc + 1) ls (.ref (G.2.2 + σ.2.2 k i.toNatClampNeg) :: rest))) : W p l e R s m args below meth c H locs cells slots Q (F0 m pc ls (.int i :: .ref (G.2.2 + k) :: rest)) := by
  subst hn
  have he := s_at G σ hk (by decide)
  rw [s_cl, s_cell, hk] at he
  exact va_aldq (D := G.1) (cl := vwCl) C.1 C.2.1 C.2.2.2.2.1 S.1 k 4 he rfl hin hdg kk
theorem a_ist (C : s_C G p s args m c own cc) (hk : s_kd k = 8) (S : s_St G σ H0 H locs) {i : Int32} {v : Int32} {n : Nat} (hn : s_len k = n) (hin : vp_in i n) (hdg : decode cc pc = .ok (.iastore, 1)) (kk : ∀ (σ1 : Sg) (H1 : Heap) (locs1 : List Loc), σ1 = setI σ k i.toNatClampNeg v → s_St G σ1 H0 H1 locs1 → W p l e R s m args below meth c H1 locs1 cells slots Q (F0 m (pc + 1) ls rest)) : W p l e R s m args below meth c H locs cells slots Q (F0 m pc ls (.int v :: .int i :: .ref (G.2.2 + k) :: rest)) := by
  subst hn
  have he := s_at G σ hk (by decide)
  rw [s_cl, s_cell, hk] at he
  refine va_iast (D := G.1) (cl := vwCl) C.1 C.2.1 C.2.2.2.2.1 S.1 (s_D G σ) S.2.1 k 0 he rfl hin hdg (fun H1 locs1 hP _ hS => ?_)
  refine kk _ H1 locs1 rfl ⟨?_, hS, s_rokI S.2.2 k _ v⟩
  rw [s_set (G := G) (σ := σ) (σ' := setI σ k i.toNatClampNeg v) (s_kd_lt hk (by decide)) (fun q hq => by show s_cell G (upd2 σ.1 k i.toNatClampNeg v q) _ _ q = _; rw [upd2_ne hq]; rfl) (by show s_cell G (upd2 σ.1 k i.toNatClampNeg v k) _ _ k = _; rw [s_cell, hk, upd2_row]; rfl)] at hP
  exact hP
theorem a_zst (C : s_C G p s args m c own cc) (hk : s_kd k = 10) (S : s_St G σ H0 H locs) {i : Int32} {v : Int32} {n : Nat} (hn : s_len k = n) (hin : vp_in i n) (hdg : decode cc pc = .ok (.bastore, 1)) (kk : ∀ (σ1 : Sg) (H1 : Heap) (locs1 : List Loc), σ1 = setI σ k i.toNatClampNeg (vp_nar .boolean v) → s_St G σ1 H0 H1 locs1 → W p l e R s m args below meth c H1 locs1 cells slots Q (F0 m (pc + 1) ls rest)) : W p l e R s m args below meth c H locs cells slots Q (F0 m pc ls (.int v :: .int i :: .ref (G.2.2 + k) :: rest)) := by
  subst hn
  have he := s_at G σ hk (by decide)
  rw [s_cl, s_cell, hk] at he
  refine va_zast (D := G.1) (cl := vwCl) C.1 C.2.1 C.2.2.2.2.1 S.1 (s_D G σ) S.2.1 k 2 he rfl hin hdg (fun H1 locs1 hP _ hS => ?_)
  refine kk _ H1 locs1 rfl ⟨?_, hS, s_rokI S.2.2 k _ _⟩
  rw [s_set (G := G) (σ := σ) (σ' := setI σ k i.toNatClampNeg (vp_nar .boolean v)) (s_kd_lt hk (by decide)) (fun q hq => by show s_cell G (upd2 σ.1 k i.toNatClampNeg (vp_nar .boolean v) q) _ _ q = _; rw [upd2_ne hq]; rfl) (by show s_cell G (upd2 σ.1 k i.toNatClampNeg (vp_nar .boolean v) k) _ _ k = _; rw [s_cell, hk, upd2_row]; rfl)] at hP
  exact hP
theorem a_lst (C : s_C G p s args m c own cc) (hk : s_kd k = 9) (S : s_St G σ H0 H locs) {i : Int32} {v : Int64} {n : Nat} (hn : s_len k = n) (hin : vp_in i n) (hdg : decode cc pc = .ok (.lastore, 1)) (kk : ∀ (σ1 : Sg) (H1 : Heap) (locs1 : List Loc), σ1 = setL σ k i.toNatClampNeg v → s_St G σ1 H0 H1 locs1 → W p l e R s m args below meth c H1 locs1 cells slots Q (F0 m (pc + 1) ls rest)) : W p l e R s m args below meth c H locs cells slots Q (F0 m pc ls (.long v :: .int i :: .ref (G.2.2 + k) :: rest)) := by
  subst hn
  have he := s_at G σ hk (by decide)
  rw [s_cl, s_cell, hk] at he
  refine va_last (D := G.1) (cl := vwCl) C.1 C.2.1 C.2.2.2.2.1 S.1 (s_D G σ) S.2.1 k 1 he rfl hin hdg (fun H1 locs1 hP _ hS => ?_)
  refine kk _ H1 locs1 rfl ⟨?_, hS, s_rokL S.2.2 k _ v⟩
  rw [s_set (G := G) (σ := σ) (σ' := setL σ k i.toNatClampNeg v) (s_kd_lt hk (by decide)) (fun q hq => by show s_cell G _ (upd2 σ.2.1 k i.toNatClampNeg v q) _ q = _; rw [upd2_ne hq]; rfl) (by show s_cell G _ (upd2 σ.2.1 k i.toNatClampNeg v k) _ k = _; rw [s_cell, hk, upd2_row]; rfl)] at hP
  exact hP
theorem a_mst (C : s_C G p s args m c own cc) (hk : s_kd k = 11) (S : s_St G σ H0 H locs) {i : Int32} {v : Nat} (hv : s_kd v = 3) {n : Nat} (hn : s_len k = n) (hin : vp_in i n) (hdg : decode cc pc = .ok (.aastore, 1)) (kk : ∀ (σ1 : Sg) (H1 : Heap) (locs1 : List Loc), σ1 = setR σ k i.toNatClampNeg v → s_St G σ1 H0 H1 locs1 → W p l e R s m args below meth c H1 locs1 cells slots Q (F0 m (pc + 1) ls rest)) : W p l e R s m args below meth c H locs cells slots Q (F0 m pc ls (.ref (G.2.2 + v) :: .int i :: .ref (G.2.2 + k) :: rest)) := by
  subst hn
  have he := s_at G σ hk (by decide)
  rw [s_cl, s_cell, hk] at he
  have hev := s_at G σ hv (by decide)
  rw [s_cl, s_cell, hv] at hev
  refine va_astq (D := G.1) (cl := vwCl) (r := (RX3, TX3, 6)) C.1 C.2.1 C.2.2.2.2.1 S.1 (s_D G σ) S.2.1 k 3 v 3 he rfl hev rfl hin hdg (fun H1 locs1 hP _ hS => ?_)
  refine kk _ H1 locs1 rfl ⟨?_, hS, s_rokR S.2.2 _ (fun h => by rw [hk] at h; exact hv) (fun h => by rw [hk] at h; cases h)⟩
  rw [s_set (G := G) (σ := σ) (σ' := setR σ k i.toNatClampNeg v) (s_kd_lt hk (by decide)) (fun q hq => by show s_cell G _ _ (upd2 σ.2.2 k i.toNatClampNeg v q) q = _; rw [upd2_ne hq]; rfl) (by show s_cell G _ _ (upd2 σ.2.2 k i.toNatClampNeg v k) k = _; rw [s_cell, hk, upd2_row]; show Sum.inl _ = Sum.inl _; congr 7; funext b; by_cases h9 : b = i.toNatClampNeg <;> simp [va_up, h9])] at hP
  exact hP
theorem a_dst (C : s_C G p s args m c own cc) (hk : s_kd k = 12) (S : s_St G σ H0 H locs) {i : Int32} {v : Nat} (hv : s_kd v = 1) {n : Nat} (hn : s_len k = n) (hin : vp_in i n) (hdg : decode cc pc = .ok (.aastore, 1)) (kk : ∀ (σ1 : Sg) (H1 : Heap) (locs1 : List Loc), σ1 = setR σ k i.toNatClampNeg v → s_St G σ1 H0 H1 locs1 → W p l e R s m args below meth c H1 locs1 cells slots Q (F0 m (pc + 1) ls rest)) : W p l e R s m args below meth c H locs cells slots Q (F0 m pc ls (.ref (G.2.2 + v) :: .int i :: .ref (G.2.2 + k) :: rest)) := by
  subst hn
  have he := s_at G σ hk (by decide)
  rw [s_cl, s_cell, hk] at he
  have hev := s_at G σ hv (by decide)
  rw [s_cl, s_cell, hv] at hev
  refine va_astq (D := G.1) (cl := vwCl) (r := (RX1, TX1, 4)) C.1 C.2.1 C.2.2.2.2.1 S.1 (s_D G σ) S.2.1 k 4 v 1 he rfl hev rfl hin hdg (fun H1 locs1 hP _ hS => ?_)
  refine kk _ H1 locs1 rfl ⟨?_, hS, s_rokR S.2.2 _ (fun h => by rw [hk] at h; cases h) (fun h => by rw [hk] at h; exact hv)⟩
  rw [s_set (G := G) (σ := σ) (σ' := setR σ k i.toNatClampNeg v) (s_kd_lt hk (by decide)) (fun q hq => by show s_cell G _ _ (upd2 σ.2.2 k i.toNatClampNeg v q) q = _; rw [upd2_ne hq]; rfl) (by show s_cell G _ _ (upd2 σ.2.2 k i.toNatClampNeg v k) k = _; rw [s_cell, hk, upd2_row]; show Sum.inl _ = Sum.inl _; congr 7; funext b; by_cases h9 : b = i.toNatClampNeg <;> simp [va_up, h9])] at hP
  exact hP
theorem a_len8 (C : s_C G p s args m c own cc) (hk : s_kd k = 8) (S : s_St G σ H0 H locs) {v : Int32} (hn : Int32.ofNat (s_len k) = v) (hdg : decode cc pc = .ok (.arraylength, 1)) (kk : W p l e R s m args below meth c H locs cells slots Q (F0 m (pc + 1) ls (.int v :: rest))) : W p l e R s m args below meth c H locs cells slots Q (F0 m pc ls (.ref (G.2.2 + k) :: rest)) := by
  have he := s_at G σ hk (by decide)
  rw [s_cl, s_cell, hk] at he
  exact va_alen (D := G.1) (cl := vwCl) C.1 C.2.1 C.2.2.2.2.1 S.1 k 0 he rfl hn hdg kk
theorem a_len9 (C : s_C G p s args m c own cc) (hk : s_kd k = 9) (S : s_St G σ H0 H locs) {v : Int32} (hn : Int32.ofNat (s_len k) = v) (hdg : decode cc pc = .ok (.arraylength, 1)) (kk : W p l e R s m args below meth c H locs cells slots Q (F0 m (pc + 1) ls (.int v :: rest))) : W p l e R s m args below meth c H locs cells slots Q (F0 m pc ls (.ref (G.2.2 + k) :: rest)) := by
  have he := s_at G σ hk (by decide)
  rw [s_cl, s_cell, hk] at he
  exact va_alen (D := G.1) (cl := vwCl) C.1 C.2.1 C.2.2.2.2.1 S.1 k 1 he rfl hn hdg kk
theorem a_len10 (C : s_C G p s args m c own cc) (hk : s_kd k = 10) (S : s_St G σ H0 H locs) {v : Int32} (hn : Int32.ofNat (s_len k) = v) (hdg : decode cc pc = .ok (.arraylength, 1)) (kk : W p l e R s m args below meth c H locs cells slots Q (F0 m (pc + 1) ls (.int v :: rest))) : W p l e R s m args below meth c H locs cells slots Q (F0 m pc ls (.ref (G.2.2 + k) :: rest)) := by
  have he := s_at G σ hk (by decide)
  rw [s_cl, s_cell, hk] at he
  exact va_alen (D := G.1) (cl := vwCl) C.1 C.2.1 C.2.2.2.2.1 S.1 k 2 he rfl hn hdg kk
theorem a_len11 (C : s_C G p s args m c own cc) (hk : s_kd k = 11) (S : s_St G σ H0 H locs) {v : Int32} (hn : Int32.ofNat (s_len k) = v) (hdg : decode cc pc = .ok (.arraylength, 1)) (kk : W p l e R s m args below meth c H locs cells slots Q (F0 m (pc + 1) ls (.int v :: rest))) : W p l e R s m args below meth c H locs cells slots Q (F0 m pc ls (.ref (G.2.2 + k) :: rest)) := by
  have he := s_at G σ hk (by decide)
  rw [s_cl, s_cell, hk] at he
  exact va_alen (D := G.1) (cl := vwCl) C.1 C.2.1 C.2.2.2.2.1 S.1 k 3 he rfl hn hdg kk
theorem a_len12 (C : s_C G p s args m c own cc) (hk : s_kd k = 12) (S : s_St G σ H0 H locs) {v : Int32} (hn : Int32.ofNat (s_len k) = v) (hdg : decode cc pc = .ok (.arraylength, 1)) (kk : W p l e R s m args below meth c H locs cells slots Q (F0 m (pc + 1) ls (.int v :: rest))) : W p l e R s m args below meth c H locs cells slots Q (F0 m pc ls (.ref (G.2.2 + k) :: rest)) := by
  have he := s_at G σ hk (by decide)
  rw [s_cl, s_cell, hk] at he
  exact va_alen (D := G.1) (cl := vwCl) C.1 C.2.1 C.2.2.2.2.1 S.1 k 4 he rfl hn hdg kk
theorem r_V {y : MethodName} {maxL nL np ci N : Nat} {T : u_T} {ret : Option FieldType} {rm : Room} {Qc : Array Value → State → Outcome → State → Prop} {As : List Value} (C : s_C G p s args m c own cc) (hml : c.maxLocals = nL) (hM : Met l y (wsU y bytes maxL ret) rm (va_Pc (.ref (G.2.2 + k) :: As) (s_Pre G σ)) Qc 0 0 (s_A G.2.2)) (hy : s_M y bytes maxL ret np) (him : Cond.instanceMethod y ∈ wL) (hse : Cond.selects y.cls y y ∈ wL) (hlink : Cond.methodLink own idx y ∈ wL) (hrm : rm.cells = 0 ∧ rm.slots = 0) (hR : rm.frames + 1 ≤ R.frames ∧ 8 + (maxL + 11) + rm.locals ≤ R.locals) (hf : cells ≤ R.cells ∧ slots ≤ R.slots)
    (S : s_St G σ H0 H locs) (hk : s_kd k = ci) (hc : ci < 8) (hcl : vwCl[ci]? = some (y.cls, T, N)) (hn : As.length = np) (hsize : ls.size = nL) (hst : st0 = As.reverse ++ .ref (G.2.2 + k) :: rest) (hW : (rest.map fun v => v.category).sum ≤ 8) (hdg : decode cc pc = .ok (.invokevirtual idx, 3)) : va_Run p l e R s m args below meth c H locs cells slots 0 0 (F0 m pc ls st0) rest (Qc (Value.ref (G.2.2 + k) :: As).toArray) (s_A G.2.2) := by
  have he := s_at G σ hk (by omega)
  obtain ⟨cellB, q1, q2, q3⟩ : ∃ cell : Cell, H[G.2.2 + k]? = some cell ∧ cell.vm.isStatics = false ∧ s.vm.findClass y.cls = some cell.cls := by
    obtain ⟨fs, hfs⟩ : ∃ fs, s_cl G σ k = .inr (ci, fs) := by
      unfold s_cl s_cell
      rw [hk]
      rcases (show ci = 0 ∨ ci = 1 ∨ ci = 2 ∨ ci = 3 ∨ ci = 4 ∨ ci = 5 ∨ ci = 6 ∨ ci = 7 by omega) with rfl | rfl | rfl | rfl | rfl | rfl | rfl | rfl <;> exact ⟨_, rfl⟩
    rw [hfs] at he
    exact va_recv C.2.2.2.2.1 S.1 hcl he
  exact va_runV (As := As) (rest := rest) ⟨C.1, C.2.1, hml, C.2.2.1, C.2.2.2.1⟩ hM ⟨callB_of np C.2.2.2.1 (good_U hy) rfl hrm.1 hrm.2 (C.2.2.2.1 _ hy.2.1) (C.2.2.2.1 _ hlink) hy.2.2 hR, C.2.2.2.1 _ him, C.2.2.2.1 _ hse⟩ ⟨s_Pre.blind G σ _, ⟨cellB, q1, q2, q3⟩, fun U hU hW => ⟨rfl, by rw [hU]; exact S.1, S.2.2, va_K.moved hW.alike C.2.2.2.2.1, C.2.2.2.2.2.moved hW⟩⟩ rfl hn hsize hst (lv_room hW) hdg hf
theorem r_VN {y : MethodName} {maxL nL np ci N : Nat} {T : u_T} {ret : Option FieldType} {rm : Room} {Qc : Array Value → State → Outcome → State → Prop} {As : List Value} (C : s_C G p s args m c own cc) (hml : c.maxLocals = nL) (hM : Met l y (wsU y bytes maxL ret) rm (va_Pc (.ref (G.2.2 + k) :: As) (s_Pre G σ)) Qc 0 0 (s_A G.2.2)) (hy : s_M y bytes maxL ret np) (him : Cond.instanceMethod y ∈ wL) (hse : Cond.selects y.cls y y ∈ wL) (hlink : Cond.methodLinkNest own idx y "PhraseReader" ∈ nestW) (hrm : rm.cells = 0 ∧ rm.slots = 0) (hR : rm.frames + 1 ≤ R.frames ∧ 8 + (maxL + 11) + rm.locals ≤ R.locals) (hf : cells ≤ R.cells ∧ slots ≤ R.slots)
    (S : s_St G σ H0 H locs) (hk : s_kd k = ci) (hc : ci < 8) (hcl : vwCl[ci]? = some (y.cls, T, N)) (hn : As.length = np) (hsize : ls.size = nL) (hst : st0 = As.reverse ++ .ref (G.2.2 + k) :: rest) (hW : (rest.map fun v => v.category).sum ≤ 8) (hdg : decode cc pc = .ok (.invokevirtual idx, 3)) : va_Run p l e R s m args below meth c H locs cells slots 0 0 (F0 m pc ls st0) rest (Qc (Value.ref (G.2.2 + k) :: As).toArray) (s_A G.2.2) := by
  have he := s_at G σ hk (by omega)
  obtain ⟨cellB, q1, q2, q3⟩ : ∃ cell : Cell, H[G.2.2 + k]? = some cell ∧ cell.vm.isStatics = false ∧ s.vm.findClass y.cls = some cell.cls := by
    obtain ⟨fs, hfs⟩ : ∃ fs, s_cl G σ k = .inr (ci, fs) := by
      unfold s_cl s_cell
      rw [hk]
      rcases (show ci = 0 ∨ ci = 1 ∨ ci = 2 ∨ ci = 3 ∨ ci = 4 ∨ ci = 5 ∨ ci = 6 ∨ ci = 7 by omega) with rfl | rfl | rfl | rfl | rfl | rfl | rfl | rfl <;> exact ⟨_, rfl⟩
    rw [hfs] at he
    exact va_recv C.2.2.2.2.1 S.1 hcl he
  exact va_runVN (As := As) (rest := rest) ⟨C.1, C.2.1, hml, C.2.2.1, C.2.2.2.1⟩ hM ⟨va_cnB np C.2.2.2.1 (good_U hy) rfl hrm.1 hrm.2 (C.2.2.2.2.2 _ hlink) (C.2.2.2.1 _ hy.2.1) hy.2.2 hR, C.2.2.2.1 _ him, C.2.2.2.1 _ hse⟩ ⟨s_Pre.blind G σ _, ⟨cellB, q1, q2, q3⟩, fun U hU hW => ⟨rfl, by rw [hU]; exact S.1, S.2.2, va_K.moved hW.alike C.2.2.2.2.1, C.2.2.2.2.2.moved hW⟩⟩ rfl hn hsize hst (lv_room hW) hdg hf
theorem r_S {y : MethodName} {maxL nL np : Nat} {ret : Option FieldType} {rm : Room} {Qc : Array Value → State → Outcome → State → Prop} {As : List Value} (C : s_C G p s args m c own cc) (hml : c.maxLocals = nL) (hM : Met l y (wsU y bytes maxL ret) rm (va_Pc As (s_Pre G σ)) Qc 0 0 (s_A G.2.2)) (hy : s_M y bytes maxL ret np) (hst1 : Cond.static y ∈ wL) (hlink : Cond.methodLink own idx y ∈ wL) (hrm : rm.cells = 0 ∧ rm.slots = 0) (hR : rm.frames + 1 ≤ R.frames ∧ 8 + (maxL + 11) + rm.locals ≤ R.locals) (hf : cells ≤ R.cells ∧ slots ≤ R.slots)
    (S : s_St G σ H0 H locs) (hn : As.length = np) (hsize : ls.size = nL) (hst : st0 = As.reverse ++ rest) (hW : (rest.map fun v => v.category).sum ≤ 8) (hdg : decode cc pc = .ok (.invokestatic idx, 3)) : va_Run p l e R s m args below meth c H locs cells slots 0 0 (F0 m pc ls st0) rest (Qc As.toArray) (s_A G.2.2) :=
  va_runS (As := As) (rest := rest) ⟨C.1, C.2.1, hml, C.2.2.1, C.2.2.2.1⟩ hM ⟨callB_of np C.2.2.2.1 (good_U hy) rfl hrm.1 hrm.2 (C.2.2.2.1 _ hy.2.1) (C.2.2.2.1 _ hlink) hy.2.2 hR, C.2.2.2.1 _ hst1⟩ ⟨s_Pre.blind G σ _, fun U hU hW => ⟨rfl, by rw [hU]; exact S.1, S.2.2, va_K.moved hW.alike C.2.2.2.2.1, C.2.2.2.2.2.moved hW⟩⟩ rfl hn hsize hst (lv_room hW) hdg hf
theorem r_SN {y : MethodName} {maxL nL np : Nat} {ret : Option FieldType} {rm : Room} {Qc : Array Value → State → Outcome → State → Prop} {As : List Value} (C : s_C G p s args m c own cc) (hml : c.maxLocals = nL) (hM : Met l y (wsU y bytes maxL ret) rm (va_Pc As (s_Pre G σ)) Qc 0 0 (s_A G.2.2)) (hy : s_M y bytes maxL ret np) (hst1 : Cond.static y ∈ wL) (hlink : Cond.methodLinkNest own idx y "PhraseReader" ∈ nestW) (hrm : rm.cells = 0 ∧ rm.slots = 0) (hR : rm.frames + 1 ≤ R.frames ∧ 8 + (maxL + 11) + rm.locals ≤ R.locals) (hf : cells ≤ R.cells ∧ slots ≤ R.slots)
    (S : s_St G σ H0 H locs) (hn : As.length = np) (hsize : ls.size = nL) (hst : st0 = As.reverse ++ rest) (hW : (rest.map fun v => v.category).sum ≤ 8) (hdg : decode cc pc = .ok (.invokestatic idx, 3)) : va_Run p l e R s m args below meth c H locs cells slots 0 0 (F0 m pc ls st0) rest (Qc As.toArray) (s_A G.2.2) :=
  va_runSN (As := As) (rest := rest) ⟨C.1, C.2.1, hml, C.2.2.1, C.2.2.2.1⟩ hM ⟨va_cnB np C.2.2.2.1 (good_U hy) rfl hrm.1 hrm.2 (C.2.2.2.2.2 _ hlink) (C.2.2.2.1 _ hy.2.1) hy.2.2 hR, C.2.2.2.1 _ hst1, trivial⟩ ⟨s_Pre.blind G σ _, fun U hU hW => ⟨rfl, by rw [hU]; exact S.1, S.2.2, va_K.moved hW.alike C.2.2.2.2.1, C.2.2.2.2.2.moved hW⟩⟩ rfl hn hsize hst (lv_room hW) hdg hf
theorem k_i {post : Int32 → Sg → Prop} {a : Array Value} (hr : va_Run p l e R s m args below meth c H locs cells slots 0 0 (F0 m pc ls st0) rest (va_Qi post (s_B G) (s_A G.2.2) a) (s_A G.2.2)) (S : s_St G σ H0 H locs)
    (kk : ∀ (r : Int32) (σ1 : Sg) (H1 : Heap) (locs1 : List Loc), post r σ1 → s_St G σ1 H0 H1 locs1 → W p l e R s m args below meth c H1 locs1 cells slots Q (F0 m (pc + 3) ls (.int r :: rest))) : W p l e R s m args below meth c H locs cells slots Q (F0 m pc ls st0) :=
  va_calli hr S.2.1 (fun _ _ h => h) (fun _ h => h) (fun r u t H1 locs1 ht _ hw hB _ _ hS => kk r u H1 locs1 hw ⟨by rw [← ht]; exact hB.1, hS, hB.2⟩)
theorem k_l {post : Int64 → Sg → Prop} {a : Array Value} (hr : va_Run p l e R s m args below meth c H locs cells slots 0 0 (F0 m pc ls st0) rest (va_Ql post (s_B G) (s_A G.2.2) a) (s_A G.2.2)) (S : s_St G σ H0 H locs)
    (kk : ∀ (r : Int64) (σ1 : Sg) (H1 : Heap) (locs1 : List Loc), post r σ1 → s_St G σ1 H0 H1 locs1 → W p l e R s m args below meth c H1 locs1 cells slots Q (F0 m (pc + 3) ls (.long r :: rest))) : W p l e R s m args below meth c H locs cells slots Q (F0 m pc ls st0) :=
  va_calll hr S.2.1 (fun _ _ h => h) (fun _ h => h) (fun r u t H1 locs1 ht _ hw hB _ _ hS => kk r u H1 locs1 hw ⟨by rw [← ht]; exact hB.1, hS, hB.2⟩)
theorem k_v {post : Sg → Prop} {a : Array Value} (hr : va_Run p l e R s m args below meth c H locs cells slots 0 0 (F0 m pc ls st0) rest (va_Qv post (s_B G) (s_A G.2.2) a) (s_A G.2.2)) (S : s_St G σ H0 H locs)
    (kk : ∀ (σ1 : Sg) (H1 : Heap) (locs1 : List Loc), post σ1 → s_St G σ1 H0 H1 locs1 → W p l e R s m args below meth c H1 locs1 cells slots Q (F0 m (pc + 3) ls rest)) : W p l e R s m args below meth c H locs cells slots Q (F0 m pc ls st0) :=
  va_callv hr S.2.1 (fun _ _ h => h) (fun _ h => h) (fun u t H1 locs1 ht _ hw hB _ _ hS => kk u H1 locs1 hw ⟨by rw [← ht]; exact hB.1, hS, hB.2⟩)
def s_Br (G : s_G) (kd : Nat) (u : Nat × Sg) (a : Nat) (t : State) : Prop := a = G.2.2 + u.1 ∧ s_kd u.1 = kd ∧ va_P G.1 vwCl (s_W G u.2) t.heap ∧ s_rok u.2
theorem k_r {kd : Nat} {post : Nat × Sg → Prop} {a : Array Value} (hr : va_Run p l e R s m args below meth c H locs cells slots 0 0 (F0 m pc ls st0) rest (va_Qr post (s_Br G kd) (s_A G.2.2) a) (s_A G.2.2)) (S : s_St G σ H0 H locs)
    (kk : ∀ (q : Nat) (σ1 : Sg) (H1 : Heap) (locs1 : List Loc), s_kd q = kd → post (q, σ1) → s_St G σ1 H0 H1 locs1 → W p l e R s m args below meth c H1 locs1 cells slots Q (F0 m (pc + 3) ls (.ref (G.2.2 + q) :: rest))) : W p l e R s m args below meth c H locs cells slots Q (F0 m pc ls st0) :=
  va_callr hr S.2.1 (fun _ _ h => h) (fun _ h => h) (fun u ra t H1 locs1 ht _ hw hB _ _ hS => by
    obtain ⟨q, σ1⟩ := u
    obtain ⟨rfl, h2, h3, h4⟩ := hB
    exact kk q σ1 H1 locs1 h2 hw ⟨by rw [← ht]; exact h3, hS, h4⟩)
end BASE
end
section
theorem dX0_init_0 : decode cX0_init 0 = .ok (.aload_n 0, 1) := by decide +kernel
theorem dX0_init_1 : decode cX0_init 1 = .ok (.invokespecial 3, 3) := by decide +kernel
theorem dX0_init_4 : decode cX0_init 4 = .ok (.aload_n 0, 1) := by decide +kernel
theorem dX0_init_5 : decode cX0_init 5 = .ok (.bipush 60, 2) := by decide +kernel
theorem dX0_init_7 : decode cX0_init 7 = .ok (.newarray .int, 2) := by decide +kernel
theorem dX0_init_9 : decode cX0_init 9 = .ok (.putfield 9, 3) := by decide +kernel
theorem dX0_init_12 : decode cX0_init 12 = .ok (.return_, 1) := by decide +kernel
theorem dX0_clear_0 : decode cX0_clear 0 = .ok (.aload_n 0, 1) := by decide +kernel
theorem dX0_clear_1 : decode cX0_clear 1 = .ok (.iconst 0, 1) := by decide +kernel
theorem dX0_clear_2 : decode cX0_clear 2 = .ok (.putfield 15, 3) := by decide +kernel
theorem dX0_clear_5 : decode cX0_clear 5 = .ok (.return_, 1) := by decide +kernel
theorem dX0_append_0 : decode cX0_append 0 = .ok (.aload_n 0, 1) := by decide +kernel
theorem dX0_append_1 : decode cX0_append 1 = .ok (.getfield 15, 3) := by decide +kernel
theorem dX0_append_4 : decode cX0_append 4 = .ok (.ifCond .lt 15, 3) := by decide +kernel
theorem dX0_append_7 : decode cX0_append 7 = .ok (.aload_n 0, 1) := by decide +kernel
theorem dX0_append_8 : decode cX0_append 8 = .ok (.getfield 15, 3) := by decide +kernel
theorem dX0_append_11 : decode cX0_append 11 = .ok (.aload_n 0, 1) := by decide +kernel
theorem dX0_append_12 : decode cX0_append 12 = .ok (.getfield 9, 3) := by decide +kernel
theorem dX0_append_15 : decode cX0_append 15 = .ok (.arraylength, 1) := by decide +kernel
theorem dX0_append_16 : decode cX0_append 16 = .ok (.if_icmp .lt 5, 3) := by decide +kernel
theorem dX0_append_19 : decode cX0_append 19 = .ok (.iconst 0, 1) := by decide +kernel
theorem dX0_append_20 : decode cX0_append 20 = .ok (.ireturn, 1) := by decide +kernel
theorem dX0_append_21 : decode cX0_append 21 = .ok (.aload_n 0, 1) := by decide +kernel
theorem dX0_append_22 : decode cX0_append 22 = .ok (.getfield 9, 3) := by decide +kernel
theorem dX0_append_25 : decode cX0_append 25 = .ok (.aload_n 0, 1) := by decide +kernel
theorem dX0_append_26 : decode cX0_append 26 = .ok (.getfield 15, 3) := by decide +kernel
theorem dX0_append_29 : decode cX0_append 29 = .ok (.iload_n 1, 1) := by decide +kernel
theorem dX0_append_30 : decode cX0_append 30 = .ok (.iastore, 1) := by decide +kernel
theorem dX0_append_31 : decode cX0_append 31 = .ok (.aload_n 0, 1) := by decide +kernel
theorem dX0_append_32 : decode cX0_append 32 = .ok (.dup, 1) := by decide +kernel
theorem dX0_append_33 : decode cX0_append 33 = .ok (.getfield 15, 3) := by decide +kernel
theorem dX0_append_36 : decode cX0_append 36 = .ok (.iconst 1, 1) := by decide +kernel
theorem dX0_append_37 : decode cX0_append 37 = .ok (.iadd, 1) := by decide +kernel
theorem dX0_append_38 : decode cX0_append 38 = .ok (.putfield 15, 3) := by decide +kernel
theorem dX0_append_41 : decode cX0_append 41 = .ok (.iconst 1, 1) := by decide +kernel
theorem dX0_append_42 : decode cX0_append 42 = .ok (.ireturn, 1) := by decide +kernel
theorem dX0_at_0 : decode cX0_at 0 = .ok (.iload_n 1, 1) := by decide +kernel
theorem dX0_at_1 : decode cX0_at 1 = .ok (.ifCond .lt 29, 3) := by decide +kernel
theorem dX0_at_4 : decode cX0_at 4 = .ok (.iload_n 1, 1) := by decide +kernel
theorem dX0_at_5 : decode cX0_at 5 = .ok (.aload_n 0, 1) := by decide +kernel
theorem dX0_at_6 : decode cX0_at 6 = .ok (.getfield 15, 3) := by decide +kernel
theorem dX0_at_9 : decode cX0_at 9 = .ok (.if_icmp .ge 21, 3) := by decide +kernel
theorem dX0_at_12 : decode cX0_at 12 = .ok (.iload_n 1, 1) := by decide +kernel
theorem dX0_at_13 : decode cX0_at 13 = .ok (.aload_n 0, 1) := by decide +kernel
theorem dX0_at_14 : decode cX0_at 14 = .ok (.getfield 9, 3) := by decide +kernel
theorem dX0_at_17 : decode cX0_at 17 = .ok (.arraylength, 1) := by decide +kernel
theorem dX0_at_18 : decode cX0_at 18 = .ok (.if_icmp .ge 12, 3) := by decide +kernel
theorem dX0_at_21 : decode cX0_at 21 = .ok (.aload_n 0, 1) := by decide +kernel
theorem dX0_at_22 : decode cX0_at 22 = .ok (.getfield 9, 3) := by decide +kernel
theorem dX0_at_25 : decode cX0_at 25 = .ok (.iload_n 1, 1) := by decide +kernel
theorem dX0_at_26 : decode cX0_at 26 = .ok (.iaload, 1) := by decide +kernel
theorem dX0_at_27 : decode cX0_at 27 = .ok (.goto 5, 3) := by decide +kernel
theorem dX0_at_30 : decode cX0_at 30 = .ok (.bipush (-9), 2) := by decide +kernel
theorem dX0_at_32 : decode cX0_at 32 = .ok (.ireturn, 1) := by decide +kernel
theorem dX0_asWord_0 : decode cX0_asWord 0 = .ok (.aload_n 0, 1) := by decide +kernel
theorem dX0_asWord_1 : decode cX0_asWord 1 = .ok (.getfield 15, 3) := by decide +kernel
theorem dX0_asWord_4 : decode cX0_asWord 4 = .ok (.iconst 3, 1) := by decide +kernel
theorem dX0_asWord_5 : decode cX0_asWord 5 = .ok (.if_icmp .le 5, 3) := by decide +kernel
theorem dX0_asWord_8 : decode cX0_asWord 8 = .ok (.iconst 0, 1) := by decide +kernel
theorem dX0_asWord_9 : decode cX0_asWord 9 = .ok (.ireturn, 1) := by decide +kernel
theorem dX0_asWord_10 : decode cX0_asWord 10 = .ok (.iconst 0, 1) := by decide +kernel
theorem dX0_asWord_11 : decode cX0_asWord 11 = .ok (.istore_n 1, 1) := by decide +kernel
theorem dX0_asWord_12 : decode cX0_asWord 12 = .ok (.iconst 0, 1) := by decide +kernel
theorem dX0_asWord_13 : decode cX0_asWord 13 = .ok (.istore_n 2, 1) := by decide +kernel
theorem dX0_asWord_14 : decode cX0_asWord 14 = .ok (.iload_n 2, 1) := by decide +kernel
theorem dX0_asWord_15 : decode cX0_asWord 15 = .ok (.aload_n 0, 1) := by decide +kernel
theorem dX0_asWord_16 : decode cX0_asWord 16 = .ok (.getfield 15, 3) := by decide +kernel
theorem dX0_asWord_19 : decode cX0_asWord 19 = .ok (.if_icmp .ge 35, 3) := by decide +kernel
theorem dX0_asWord_22 : decode cX0_asWord 22 = .ok (.aload_n 0, 1) := by decide +kernel
theorem dX0_asWord_23 : decode cX0_asWord 23 = .ok (.iload_n 2, 1) := by decide +kernel
theorem dX0_asWord_24 : decode cX0_asWord 24 = .ok (.invokevirtual 19, 3) := by decide +kernel
theorem dX0_asWord_27 : decode cX0_asWord 27 = .ok (.invokestatic 23, 3) := by decide +kernel
theorem dX0_asWord_30 : decode cX0_asWord 30 = .ok (.ifCond .ne 5, 3) := by decide +kernel
theorem dX0_asWord_33 : decode cX0_asWord 33 = .ok (.iconst 0, 1) := by decide +kernel
theorem dX0_asWord_34 : decode cX0_asWord 34 = .ok (.ireturn, 1) := by decide +kernel
theorem dX0_asWord_35 : decode cX0_asWord 35 = .ok (.iload_n 1, 1) := by decide +kernel
theorem dX0_asWord_36 : decode cX0_asWord 36 = .ok (.aload_n 0, 1) := by decide +kernel
theorem dX0_asWord_37 : decode cX0_asWord 37 = .ok (.iload_n 2, 1) := by decide +kernel
theorem dX0_asWord_38 : decode cX0_asWord 38 = .ok (.invokevirtual 19, 3) := by decide +kernel
theorem dX0_asWord_41 : decode cX0_asWord 41 = .ok (.bipush 8, 2) := by decide +kernel
theorem dX0_asWord_43 : decode cX0_asWord 43 = .ok (.iload_n 2, 1) := by decide +kernel
theorem dX0_asWord_44 : decode cX0_asWord 44 = .ok (.imul, 1) := by decide +kernel
theorem dX0_asWord_45 : decode cX0_asWord 45 = .ok (.ishl, 1) := by decide +kernel
theorem dX0_asWord_46 : decode cX0_asWord 46 = .ok (.ior, 1) := by decide +kernel
theorem dX0_asWord_47 : decode cX0_asWord 47 = .ok (.istore_n 1, 1) := by decide +kernel
theorem dX0_asWord_48 : decode cX0_asWord 48 = .ok (.iinc 2 1, 3) := by decide +kernel
theorem dX0_asWord_51 : decode cX0_asWord 51 = .ok (.goto (-37), 3) := by decide +kernel
theorem dX0_asWord_54 : decode cX0_asWord 54 = .ok (.iload_n 1, 1) := by decide +kernel
theorem dX0_asWord_55 : decode cX0_asWord 55 = .ok (.ireturn, 1) := by decide +kernel
theorem dX0_lettersMatched_0 : decode cX0_lettersMatched 0 = .ok (.iconst 0, 1) := by decide +kernel
theorem dX0_lettersMatched_1 : decode cX0_lettersMatched 1 = .ok (.istore_n 3, 1) := by decide +kernel
theorem dX0_lettersMatched_2 : decode cX0_lettersMatched 2 = .ok (.iload_n 3, 1) := by decide +kernel
theorem dX0_lettersMatched_3 : decode cX0_lettersMatched 3 = .ok (.aload_n 1, 1) := by decide +kernel
theorem dX0_lettersMatched_4 : decode cX0_lettersMatched 4 = .ok (.invokevirtual 27, 3) := by decide +kernel
theorem dX0_lettersMatched_7 : decode cX0_lettersMatched 7 = .ok (.if_icmp .ge 24, 3) := by decide +kernel
theorem dX0_lettersMatched_10 : decode cX0_lettersMatched 10 = .ok (.aload_n 0, 1) := by decide +kernel
theorem dX0_lettersMatched_11 : decode cX0_lettersMatched 11 = .ok (.iload_n 2, 1) := by decide +kernel
theorem dX0_lettersMatched_12 : decode cX0_lettersMatched 12 = .ok (.iload_n 3, 1) := by decide +kernel
theorem dX0_lettersMatched_13 : decode cX0_lettersMatched 13 = .ok (.iadd, 1) := by decide +kernel
theorem dX0_lettersMatched_14 : decode cX0_lettersMatched 14 = .ok (.invokevirtual 19, 3) := by decide +kernel
theorem dX0_lettersMatched_17 : decode cX0_lettersMatched 17 = .ok (.aload_n 1, 1) := by decide +kernel
theorem dX0_lettersMatched_18 : decode cX0_lettersMatched 18 = .ok (.iload_n 3, 1) := by decide +kernel
theorem dX0_lettersMatched_19 : decode cX0_lettersMatched 19 = .ok (.invokevirtual 33, 3) := by decide +kernel
theorem dX0_lettersMatched_22 : decode cX0_lettersMatched 22 = .ok (.if_icmp .ne 9, 3) := by decide +kernel
theorem dX0_lettersMatched_25 : decode cX0_lettersMatched 25 = .ok (.iinc 3 1, 3) := by decide +kernel
theorem dX0_lettersMatched_28 : decode cX0_lettersMatched 28 = .ok (.goto (-26), 3) := by decide +kernel
theorem dX0_lettersMatched_31 : decode cX0_lettersMatched 31 = .ok (.iload_n 3, 1) := by decide +kernel
theorem dX0_lettersMatched_32 : decode cX0_lettersMatched 32 = .ok (.ireturn, 1) := by decide +kernel
theorem dX0_digitsFrom_0 : decode cX0_digitsFrom 0 = .ok (.iconst 0, 1) := by decide +kernel
theorem dX0_digitsFrom_1 : decode cX0_digitsFrom 1 = .ok (.istore_n 2, 1) := by decide +kernel
theorem dX0_digitsFrom_2 : decode cX0_digitsFrom 2 = .ok (.iload_n 2, 1) := by decide +kernel
theorem dX0_digitsFrom_3 : decode cX0_digitsFrom 3 = .ok (.iconst 3, 1) := by decide +kernel
theorem dX0_digitsFrom_4 : decode cX0_digitsFrom 4 = .ok (.if_icmp .ge 22, 3) := by decide +kernel
theorem dX0_digitsFrom_7 : decode cX0_digitsFrom 7 = .ok (.aload_n 0, 1) := by decide +kernel
theorem dX0_digitsFrom_8 : decode cX0_digitsFrom 8 = .ok (.iload_n 1, 1) := by decide +kernel
theorem dX0_digitsFrom_9 : decode cX0_digitsFrom 9 = .ok (.iload_n 2, 1) := by decide +kernel
theorem dX0_digitsFrom_10 : decode cX0_digitsFrom 10 = .ok (.iadd, 1) := by decide +kernel
theorem dX0_digitsFrom_11 : decode cX0_digitsFrom 11 = .ok (.invokevirtual 19, 3) := by decide +kernel
theorem dX0_digitsFrom_14 : decode cX0_digitsFrom 14 = .ok (.invokestatic 36, 3) := by decide +kernel
theorem dX0_digitsFrom_17 : decode cX0_digitsFrom 17 = .ok (.ifCond .eq 9, 3) := by decide +kernel
theorem dX0_digitsFrom_20 : decode cX0_digitsFrom 20 = .ok (.iinc 2 1, 3) := by decide +kernel
theorem dX0_digitsFrom_23 : decode cX0_digitsFrom 23 = .ok (.goto (-21), 3) := by decide +kernel
theorem dX0_digitsFrom_26 : decode cX0_digitsFrom 26 = .ok (.iload_n 2, 1) := by decide +kernel
theorem dX0_digitsFrom_27 : decode cX0_digitsFrom 27 = .ok (.ireturn, 1) := by decide +kernel
theorem dX0_endOf_0 : decode cX0_endOf 0 = .ok (.iload_n 2, 1) := by decide +kernel
theorem dX0_endOf_1 : decode cX0_endOf 1 = .ok (.aload_n 1, 1) := by decide +kernel
theorem dX0_endOf_2 : decode cX0_endOf 2 = .ok (.invokevirtual 27, 3) := by decide +kernel
theorem dX0_endOf_5 : decode cX0_endOf 5 = .ok (.iadd, 1) := by decide +kernel
theorem dX0_endOf_6 : decode cX0_endOf 6 = .ok (.istore_n 3, 1) := by decide +kernel
theorem dX0_endOf_7 : decode cX0_endOf 7 = .ok (.aload_n 0, 1) := by decide +kernel
theorem dX0_endOf_8 : decode cX0_endOf 8 = .ok (.aload_n 1, 1) := by decide +kernel
theorem dX0_endOf_9 : decode cX0_endOf 9 = .ok (.iload_n 2, 1) := by decide +kernel
theorem dX0_endOf_10 : decode cX0_endOf 10 = .ok (.invokevirtual 39, 3) := by decide +kernel
theorem dX0_endOf_13 : decode cX0_endOf 13 = .ok (.aload_n 1, 1) := by decide +kernel
theorem dX0_endOf_14 : decode cX0_endOf 14 = .ok (.invokevirtual 27, 3) := by decide +kernel
theorem dX0_endOf_17 : decode cX0_endOf 17 = .ok (.if_icmp .ge 6, 3) := by decide +kernel
theorem dX0_endOf_20 : decode cX0_endOf 20 = .ok (.bipush (-9), 2) := by decide +kernel
theorem dX0_endOf_22 : decode cX0_endOf 22 = .ok (.ireturn, 1) := by decide +kernel
theorem dX0_endOf_23 : decode cX0_endOf 23 = .ok (.aload_n 1, 1) := by decide +kernel
theorem dX0_endOf_24 : decode cX0_endOf 24 = .ok (.getfield 43, 3) := by decide +kernel
theorem dX0_endOf_27 : decode cX0_endOf 27 = .ok (.iconst 1, 1) := by decide +kernel
theorem dX0_endOf_28 : decode cX0_endOf 28 = .ok (.if_icmp .ne 25, 3) := by decide +kernel
theorem dX0_endOf_31 : decode cX0_endOf 31 = .ok (.aload_n 0, 1) := by decide +kernel
theorem dX0_endOf_32 : decode cX0_endOf 32 = .ok (.iload_n 3, 1) := by decide +kernel
theorem dX0_endOf_33 : decode cX0_endOf 33 = .ok (.invokevirtual 46, 3) := by decide +kernel
theorem dX0_endOf_36 : decode cX0_endOf 36 = .ok (.istore 4, 2) := by decide +kernel
theorem dX0_endOf_38 : decode cX0_endOf 38 = .ok (.iload 4, 2) := by decide +kernel
theorem dX0_endOf_40 : decode cX0_endOf 40 = .ok (.ifCond .le 10, 3) := by decide +kernel
theorem dX0_endOf_43 : decode cX0_endOf 43 = .ok (.iload_n 3, 1) := by decide +kernel
theorem dX0_endOf_44 : decode cX0_endOf 44 = .ok (.iload 4, 2) := by decide +kernel
theorem dX0_endOf_46 : decode cX0_endOf 46 = .ok (.iadd, 1) := by decide +kernel
theorem dX0_endOf_47 : decode cX0_endOf 47 = .ok (.goto 5, 3) := by decide +kernel
theorem dX0_endOf_50 : decode cX0_endOf 50 = .ok (.bipush (-9), 2) := by decide +kernel
theorem dX0_endOf_52 : decode cX0_endOf 52 = .ok (.ireturn, 1) := by decide +kernel
theorem dX0_endOf_53 : decode cX0_endOf 53 = .ok (.aload_n 1, 1) := by decide +kernel
theorem dX0_endOf_54 : decode cX0_endOf 54 = .ok (.getfield 43, 3) := by decide +kernel
theorem dX0_endOf_57 : decode cX0_endOf 57 = .ok (.iconst 2, 1) := by decide +kernel
theorem dX0_endOf_58 : decode cX0_endOf 58 = .ok (.if_icmp .ne 23, 3) := by decide +kernel
theorem dX0_endOf_61 : decode cX0_endOf 61 = .ok (.aload_n 0, 1) := by decide +kernel
theorem dX0_endOf_62 : decode cX0_endOf 62 = .ok (.iload_n 3, 1) := by decide +kernel
theorem dX0_endOf_63 : decode cX0_endOf 63 = .ok (.invokevirtual 19, 3) := by decide +kernel
theorem dX0_endOf_66 : decode cX0_endOf 66 = .ok (.invokestatic 49, 3) := by decide +kernel
theorem dX0_endOf_69 : decode cX0_endOf 69 = .ok (.ifCond .eq 9, 3) := by decide +kernel
theorem dX0_endOf_72 : decode cX0_endOf 72 = .ok (.iload_n 3, 1) := by decide +kernel
theorem dX0_endOf_73 : decode cX0_endOf 73 = .ok (.iconst 1, 1) := by decide +kernel
theorem dX0_endOf_74 : decode cX0_endOf 74 = .ok (.iadd, 1) := by decide +kernel
theorem dX0_endOf_75 : decode cX0_endOf 75 = .ok (.goto 5, 3) := by decide +kernel
theorem dX0_endOf_78 : decode cX0_endOf 78 = .ok (.bipush (-9), 2) := by decide +kernel
theorem dX0_endOf_80 : decode cX0_endOf 80 = .ok (.ireturn, 1) := by decide +kernel
theorem dX0_endOf_81 : decode cX0_endOf 81 = .ok (.iload_n 3, 1) := by decide +kernel
theorem dX0_endOf_82 : decode cX0_endOf 82 = .ok (.ireturn, 1) := by decide +kernel
theorem dX0_numberIn_0 : decode cX0_numberIn 0 = .ok (.iload_n 2, 1) := by decide +kernel
theorem dX0_numberIn_1 : decode cX0_numberIn 1 = .ok (.aload_n 1, 1) := by decide +kernel
theorem dX0_numberIn_2 : decode cX0_numberIn 2 = .ok (.invokevirtual 27, 3) := by decide +kernel
theorem dX0_numberIn_5 : decode cX0_numberIn 5 = .ok (.iadd, 1) := by decide +kernel
theorem dX0_numberIn_6 : decode cX0_numberIn 6 = .ok (.istore 4, 2) := by decide +kernel
theorem dX0_numberIn_8 : decode cX0_numberIn 8 = .ok (.aload_n 1, 1) := by decide +kernel
theorem dX0_numberIn_9 : decode cX0_numberIn 9 = .ok (.getfield 43, 3) := by decide +kernel
theorem dX0_numberIn_12 : decode cX0_numberIn 12 = .ok (.iconst 1, 1) := by decide +kernel
theorem dX0_numberIn_13 : decode cX0_numberIn 13 = .ok (.if_icmp .ne 51, 3) := by decide +kernel
theorem dX0_numberIn_16 : decode cX0_numberIn 16 = .ok (.iconst 0, 1) := by decide +kernel
theorem dX0_numberIn_17 : decode cX0_numberIn 17 = .ok (.istore 5, 2) := by decide +kernel
theorem dX0_numberIn_19 : decode cX0_numberIn 19 = .ok (.iload 4, 2) := by decide +kernel
theorem dX0_numberIn_21 : decode cX0_numberIn 21 = .ok (.istore 6, 2) := by decide +kernel
theorem dX0_numberIn_23 : decode cX0_numberIn 23 = .ok (.iload 6, 2) := by decide +kernel
theorem dX0_numberIn_25 : decode cX0_numberIn 25 = .ok (.iload_n 3, 1) := by decide +kernel
theorem dX0_numberIn_26 : decode cX0_numberIn 26 = .ok (.if_icmp .ge 35, 3) := by decide +kernel
theorem dX0_numberIn_29 : decode cX0_numberIn 29 = .ok (.iload 6, 2) := by decide +kernel
theorem dX0_numberIn_31 : decode cX0_numberIn 31 = .ok (.aload_n 0, 1) := by decide +kernel
theorem dX0_numberIn_32 : decode cX0_numberIn 32 = .ok (.getfield 15, 3) := by decide +kernel
theorem dX0_numberIn_35 : decode cX0_numberIn 35 = .ok (.if_icmp .ge 26, 3) := by decide +kernel
theorem dX0_numberIn_38 : decode cX0_numberIn 38 = .ok (.bipush 10, 2) := by decide +kernel
theorem dX0_numberIn_40 : decode cX0_numberIn 40 = .ok (.iload 5, 2) := by decide +kernel
theorem dX0_numberIn_42 : decode cX0_numberIn 42 = .ok (.imul, 1) := by decide +kernel
theorem dX0_numberIn_43 : decode cX0_numberIn 43 = .ok (.aload_n 0, 1) := by decide +kernel
theorem dX0_numberIn_44 : decode cX0_numberIn 44 = .ok (.iload 6, 2) := by decide +kernel
theorem dX0_numberIn_46 : decode cX0_numberIn 46 = .ok (.invokevirtual 19, 3) := by decide +kernel
theorem dX0_numberIn_49 : decode cX0_numberIn 49 = .ok (.iadd, 1) := by decide +kernel
theorem dX0_numberIn_50 : decode cX0_numberIn 50 = .ok (.bipush 48, 2) := by decide +kernel
theorem dX0_numberIn_52 : decode cX0_numberIn 52 = .ok (.isub, 1) := by decide +kernel
theorem dX0_numberIn_53 : decode cX0_numberIn 53 = .ok (.istore 5, 2) := by decide +kernel
theorem dX0_numberIn_55 : decode cX0_numberIn 55 = .ok (.iinc 6 1, 3) := by decide +kernel
theorem dX0_numberIn_58 : decode cX0_numberIn 58 = .ok (.goto (-35), 3) := by decide +kernel
theorem dX0_numberIn_61 : decode cX0_numberIn 61 = .ok (.iload 5, 2) := by decide +kernel
theorem dX0_numberIn_63 : decode cX0_numberIn 63 = .ok (.ireturn, 1) := by decide +kernel
theorem dX0_numberIn_64 : decode cX0_numberIn 64 = .ok (.aload_n 1, 1) := by decide +kernel
theorem dX0_numberIn_65 : decode cX0_numberIn 65 = .ok (.getfield 43, 3) := by decide +kernel
theorem dX0_numberIn_68 : decode cX0_numberIn 68 = .ok (.iconst 2, 1) := by decide +kernel
theorem dX0_numberIn_69 : decode cX0_numberIn 69 = .ok (.if_icmp .ne 15, 3) := by decide +kernel
theorem dX0_numberIn_72 : decode cX0_numberIn 72 = .ok (.aload_n 0, 1) := by decide +kernel
theorem dX0_numberIn_73 : decode cX0_numberIn 73 = .ok (.iload 4, 2) := by decide +kernel
theorem dX0_numberIn_75 : decode cX0_numberIn 75 = .ok (.invokevirtual 19, 3) := by decide +kernel
theorem dX0_numberIn_78 : decode cX0_numberIn 78 = .ok (.bipush 65, 2) := by decide +kernel
theorem dX0_numberIn_80 : decode cX0_numberIn 80 = .ok (.isub, 1) := by decide +kernel
theorem dX0_numberIn_81 : decode cX0_numberIn 81 = .ok (.goto 4, 3) := by decide +kernel
theorem dX0_numberIn_84 : decode cX0_numberIn 84 = .ok (.iconst 1, 1) := by decide +kernel
theorem dX0_numberIn_85 : decode cX0_numberIn 85 = .ok (.ireturn, 1) := by decide +kernel
theorem dX0_appendOccurrence_0 : decode cX0_appendOccurrence 0 = .ok (.iconst 0, 1) := by decide +kernel
theorem dX0_appendOccurrence_1 : decode cX0_appendOccurrence 1 = .ok (.istore_n 3, 1) := by decide +kernel
theorem dX0_appendOccurrence_2 : decode cX0_appendOccurrence 2 = .ok (.iload_n 3, 1) := by decide +kernel
theorem dX0_appendOccurrence_3 : decode cX0_appendOccurrence 3 = .ok (.aload_n 1, 1) := by decide +kernel
theorem dX0_appendOccurrence_4 : decode cX0_appendOccurrence 4 = .ok (.invokevirtual 27, 3) := by decide +kernel
theorem dX0_appendOccurrence_7 : decode cX0_appendOccurrence 7 = .ok (.if_icmp .ge 19, 3) := by decide +kernel
theorem dX0_appendOccurrence_10 : decode cX0_appendOccurrence 10 = .ok (.aload_n 0, 1) := by decide +kernel
theorem dX0_appendOccurrence_11 : decode cX0_appendOccurrence 11 = .ok (.aload_n 1, 1) := by decide +kernel
theorem dX0_appendOccurrence_12 : decode cX0_appendOccurrence 12 = .ok (.iload_n 3, 1) := by decide +kernel
theorem dX0_appendOccurrence_13 : decode cX0_appendOccurrence 13 = .ok (.invokevirtual 33, 3) := by decide +kernel
theorem dX0_appendOccurrence_16 : decode cX0_appendOccurrence 16 = .ok (.invokevirtual 52, 3) := by decide +kernel
theorem dX0_appendOccurrence_19 : decode cX0_appendOccurrence 19 = .ok (.pop, 1) := by decide +kernel
theorem dX0_appendOccurrence_20 : decode cX0_appendOccurrence 20 = .ok (.iinc 3 1, 3) := by decide +kernel
theorem dX0_appendOccurrence_23 : decode cX0_appendOccurrence 23 = .ok (.goto (-21), 3) := by decide +kernel
theorem dX0_appendOccurrence_26 : decode cX0_appendOccurrence 26 = .ok (.aload_n 1, 1) := by decide +kernel
theorem dX0_appendOccurrence_27 : decode cX0_appendOccurrence 27 = .ok (.getfield 43, 3) := by decide +kernel
theorem dX0_appendOccurrence_30 : decode cX0_appendOccurrence 30 = .ok (.iconst 1, 1) := by decide +kernel
theorem dX0_appendOccurrence_31 : decode cX0_appendOccurrence 31 = .ok (.if_icmp .ne 11, 3) := by decide +kernel
theorem dX0_appendOccurrence_34 : decode cX0_appendOccurrence 34 = .ok (.aload_n 0, 1) := by decide +kernel
theorem dX0_appendOccurrence_35 : decode cX0_appendOccurrence 35 = .ok (.iload_n 2, 1) := by decide +kernel
theorem dX0_appendOccurrence_36 : decode cX0_appendOccurrence 36 = .ok (.invokevirtual 55, 3) := by decide +kernel
theorem dX0_appendOccurrence_39 : decode cX0_appendOccurrence 39 = .ok (.goto 20, 3) := by decide +kernel
theorem dX0_appendOccurrence_42 : decode cX0_appendOccurrence 42 = .ok (.aload_n 1, 1) := by decide +kernel
theorem dX0_appendOccurrence_43 : decode cX0_appendOccurrence 43 = .ok (.getfield 43, 3) := by decide +kernel
theorem dX0_appendOccurrence_46 : decode cX0_appendOccurrence 46 = .ok (.iconst 2, 1) := by decide +kernel
theorem dX0_appendOccurrence_47 : decode cX0_appendOccurrence 47 = .ok (.if_icmp .ne 12, 3) := by decide +kernel
theorem dX0_appendOccurrence_50 : decode cX0_appendOccurrence 50 = .ok (.aload_n 0, 1) := by decide +kernel
theorem dX0_appendOccurrence_51 : decode cX0_appendOccurrence 51 = .ok (.bipush 65, 2) := by decide +kernel
theorem dX0_appendOccurrence_53 : decode cX0_appendOccurrence 53 = .ok (.iload_n 2, 1) := by decide +kernel
theorem dX0_appendOccurrence_54 : decode cX0_appendOccurrence 54 = .ok (.iadd, 1) := by decide +kernel
theorem dX0_appendOccurrence_55 : decode cX0_appendOccurrence 55 = .ok (.invokevirtual 52, 3) := by decide +kernel
theorem dX0_appendOccurrence_58 : decode cX0_appendOccurrence 58 = .ok (.pop, 1) := by decide +kernel
theorem dX0_appendOccurrence_59 : decode cX0_appendOccurrence 59 = .ok (.return_, 1) := by decide +kernel
theorem dX0_appendNumber_0 : decode cX0_appendNumber 0 = .ok (.iload_n 1, 1) := by decide +kernel
theorem dX0_appendNumber_1 : decode cX0_appendNumber 1 = .ok (.bipush 100, 2) := by decide +kernel
theorem dX0_appendNumber_3 : decode cX0_appendNumber 3 = .ok (.if_icmp .lt 15, 3) := by decide +kernel
theorem dX0_appendNumber_6 : decode cX0_appendNumber 6 = .ok (.aload_n 0, 1) := by decide +kernel
theorem dX0_appendNumber_7 : decode cX0_appendNumber 7 = .ok (.bipush 48, 2) := by decide +kernel
theorem dX0_appendNumber_9 : decode cX0_appendNumber 9 = .ok (.iload_n 1, 1) := by decide +kernel
theorem dX0_appendNumber_10 : decode cX0_appendNumber 10 = .ok (.bipush 100, 2) := by decide +kernel
theorem dX0_appendNumber_12 : decode cX0_appendNumber 12 = .ok (.idiv, 1) := by decide +kernel
theorem dX0_appendNumber_13 : decode cX0_appendNumber 13 = .ok (.iadd, 1) := by decide +kernel
theorem dX0_appendNumber_14 : decode cX0_appendNumber 14 = .ok (.invokevirtual 52, 3) := by decide +kernel
theorem dX0_appendNumber_17 : decode cX0_appendNumber 17 = .ok (.pop, 1) := by decide +kernel
theorem dX0_appendNumber_18 : decode cX0_appendNumber 18 = .ok (.iload_n 1, 1) := by decide +kernel
theorem dX0_appendNumber_19 : decode cX0_appendNumber 19 = .ok (.bipush 10, 2) := by decide +kernel
theorem dX0_appendNumber_21 : decode cX0_appendNumber 21 = .ok (.if_icmp .lt 18, 3) := by decide +kernel
theorem dX0_appendNumber_24 : decode cX0_appendNumber 24 = .ok (.aload_n 0, 1) := by decide +kernel
theorem dX0_appendNumber_25 : decode cX0_appendNumber 25 = .ok (.bipush 48, 2) := by decide +kernel
theorem dX0_appendNumber_27 : decode cX0_appendNumber 27 = .ok (.iload_n 1, 1) := by decide +kernel
theorem dX0_appendNumber_28 : decode cX0_appendNumber 28 = .ok (.bipush 10, 2) := by decide +kernel
theorem dX0_appendNumber_30 : decode cX0_appendNumber 30 = .ok (.idiv, 1) := by decide +kernel
theorem dX0_appendNumber_31 : decode cX0_appendNumber 31 = .ok (.bipush 10, 2) := by decide +kernel
theorem dX0_appendNumber_33 : decode cX0_appendNumber 33 = .ok (.irem, 1) := by decide +kernel
theorem dX0_appendNumber_34 : decode cX0_appendNumber 34 = .ok (.iadd, 1) := by decide +kernel
theorem dX0_appendNumber_35 : decode cX0_appendNumber 35 = .ok (.invokevirtual 52, 3) := by decide +kernel
theorem dX0_appendNumber_38 : decode cX0_appendNumber 38 = .ok (.pop, 1) := by decide +kernel
theorem dX0_appendNumber_39 : decode cX0_appendNumber 39 = .ok (.aload_n 0, 1) := by decide +kernel
theorem dX0_appendNumber_40 : decode cX0_appendNumber 40 = .ok (.bipush 48, 2) := by decide +kernel
theorem dX0_appendNumber_42 : decode cX0_appendNumber 42 = .ok (.iload_n 1, 1) := by decide +kernel
theorem dX0_appendNumber_43 : decode cX0_appendNumber 43 = .ok (.bipush 10, 2) := by decide +kernel
theorem dX0_appendNumber_45 : decode cX0_appendNumber 45 = .ok (.irem, 1) := by decide +kernel
theorem dX0_appendNumber_46 : decode cX0_appendNumber 46 = .ok (.iadd, 1) := by decide +kernel
theorem dX0_appendNumber_47 : decode cX0_appendNumber 47 = .ok (.invokevirtual 52, 3) := by decide +kernel
theorem dX0_appendNumber_50 : decode cX0_appendNumber 50 = .ok (.pop, 1) := by decide +kernel
theorem dX0_appendNumber_51 : decode cX0_appendNumber 51 = .ok (.return_, 1) := by decide +kernel
theorem dX1_init_0 : decode cX1_init 0 = .ok (.aload_n 0, 1) := by decide +kernel
theorem dX1_init_1 : decode cX1_init 1 = .ok (.invokespecial 3, 3) := by decide +kernel
theorem dX1_init_4 : decode cX1_init 4 = .ok (.aload_n 0, 1) := by decide +kernel
theorem dX1_init_5 : decode cX1_init 5 = .ok (.bipush 6, 2) := by decide +kernel
theorem dX1_init_7 : decode cX1_init 7 = .ok (.anewarray 9, 3) := by decide +kernel
theorem dX1_init_10 : decode cX1_init 10 = .ok (.putfield 11, 3) := by decide +kernel
theorem dX1_init_13 : decode cX1_init 13 = .ok (.aload_n 0, 1) := by decide +kernel
theorem dX1_init_14 : decode cX1_init 14 = .ok (.new 9, 3) := by decide +kernel
theorem dX1_init_17 : decode cX1_init 17 = .ok (.dup, 1) := by decide +kernel
theorem dX1_init_18 : decode cX1_init 18 = .ok (.invokespecial 17, 3) := by decide +kernel
theorem dX1_init_21 : decode cX1_init 21 = .ok (.putfield 18, 3) := by decide +kernel
theorem dX1_init_24 : decode cX1_init 24 = .ok (.iconst 0, 1) := by decide +kernel
theorem dX1_init_25 : decode cX1_init 25 = .ok (.istore_n 1, 1) := by decide +kernel
theorem dX1_init_26 : decode cX1_init 26 = .ok (.iload_n 1, 1) := by decide +kernel
theorem dX1_init_27 : decode cX1_init 27 = .ok (.aload_n 0, 1) := by decide +kernel
theorem dX1_init_28 : decode cX1_init 28 = .ok (.getfield 11, 3) := by decide +kernel
theorem dX1_init_31 : decode cX1_init 31 = .ok (.arraylength, 1) := by decide +kernel
theorem dX1_init_32 : decode cX1_init 32 = .ok (.if_icmp .ge 22, 3) := by decide +kernel
theorem dX1_init_35 : decode cX1_init 35 = .ok (.aload_n 0, 1) := by decide +kernel
theorem dX1_init_36 : decode cX1_init 36 = .ok (.getfield 11, 3) := by decide +kernel
theorem dX1_init_39 : decode cX1_init 39 = .ok (.iload_n 1, 1) := by decide +kernel
theorem dX1_init_40 : decode cX1_init 40 = .ok (.new 9, 3) := by decide +kernel
theorem dX1_init_43 : decode cX1_init 43 = .ok (.dup, 1) := by decide +kernel
theorem dX1_init_44 : decode cX1_init 44 = .ok (.invokespecial 17, 3) := by decide +kernel
theorem dX1_init_47 : decode cX1_init 47 = .ok (.aastore, 1) := by decide +kernel
theorem dX1_init_48 : decode cX1_init 48 = .ok (.iinc 1 1, 3) := by decide +kernel
theorem dX1_init_51 : decode cX1_init 51 = .ok (.goto (-25), 3) := by decide +kernel
theorem dX1_init_54 : decode cX1_init 54 = .ok (.return_, 1) := by decide +kernel
theorem dX1_copyFrom_0 : decode cX1_copyFrom 0 = .ok (.aload_n 0, 1) := by decide +kernel
theorem dX1_copyFrom_1 : decode cX1_copyFrom 1 = .ok (.aload_n 1, 1) := by decide +kernel
theorem dX1_copyFrom_2 : decode cX1_copyFrom 2 = .ok (.getfield 22, 3) := by decide +kernel
theorem dX1_copyFrom_5 : decode cX1_copyFrom 5 = .ok (.putfield 22, 3) := by decide +kernel
theorem dX1_copyFrom_8 : decode cX1_copyFrom 8 = .ok (.aload_n 0, 1) := by decide +kernel
theorem dX1_copyFrom_9 : decode cX1_copyFrom 9 = .ok (.aload_n 1, 1) := by decide +kernel
theorem dX1_copyFrom_10 : decode cX1_copyFrom 10 = .ok (.getfield 26, 3) := by decide +kernel
theorem dX1_copyFrom_13 : decode cX1_copyFrom 13 = .ok (.putfield 26, 3) := by decide +kernel
theorem dX1_copyFrom_16 : decode cX1_copyFrom 16 = .ok (.iconst 0, 1) := by decide +kernel
theorem dX1_copyFrom_17 : decode cX1_copyFrom 17 = .ok (.istore_n 2, 1) := by decide +kernel
theorem dX1_copyFrom_18 : decode cX1_copyFrom 18 = .ok (.iload_n 2, 1) := by decide +kernel
theorem dX1_copyFrom_19 : decode cX1_copyFrom 19 = .ok (.aload_n 0, 1) := by decide +kernel
theorem dX1_copyFrom_20 : decode cX1_copyFrom 20 = .ok (.getfield 11, 3) := by decide +kernel
theorem dX1_copyFrom_23 : decode cX1_copyFrom 23 = .ok (.arraylength, 1) := by decide +kernel
theorem dX1_copyFrom_24 : decode cX1_copyFrom 24 = .ok (.if_icmp .ge 23, 3) := by decide +kernel
theorem dX1_copyFrom_27 : decode cX1_copyFrom 27 = .ok (.aload_n 0, 1) := by decide +kernel
theorem dX1_copyFrom_28 : decode cX1_copyFrom 28 = .ok (.getfield 11, 3) := by decide +kernel
theorem dX1_copyFrom_31 : decode cX1_copyFrom 31 = .ok (.iload_n 2, 1) := by decide +kernel
theorem dX1_copyFrom_32 : decode cX1_copyFrom 32 = .ok (.aaload, 1) := by decide +kernel
theorem dX1_copyFrom_33 : decode cX1_copyFrom 33 = .ok (.aload_n 1, 1) := by decide +kernel
theorem dX1_copyFrom_34 : decode cX1_copyFrom 34 = .ok (.iload_n 2, 1) := by decide +kernel
theorem dX1_copyFrom_35 : decode cX1_copyFrom 35 = .ok (.invokevirtual 29, 3) := by decide +kernel
theorem dX1_copyFrom_38 : decode cX1_copyFrom 38 = .ok (.invokevirtual 33, 3) := by decide +kernel
theorem dX1_copyFrom_41 : decode cX1_copyFrom 41 = .ok (.iinc 2 1, 3) := by decide +kernel
theorem dX1_copyFrom_44 : decode cX1_copyFrom 44 = .ok (.goto (-26), 3) := by decide +kernel
theorem dX1_copyFrom_47 : decode cX1_copyFrom 47 = .ok (.return_, 1) := by decide +kernel
theorem dX1_has_0 : decode cX1_has 0 = .ok (.iload_n 1, 1) := by decide +kernel
theorem dX1_has_1 : decode cX1_has 1 = .ok (.ifCond .lt 24, 3) := by decide +kernel
theorem dX1_has_4 : decode cX1_has 4 = .ok (.iload_n 1, 1) := by decide +kernel
theorem dX1_has_5 : decode cX1_has 5 = .ok (.aload_n 0, 1) := by decide +kernel
theorem dX1_has_6 : decode cX1_has 6 = .ok (.getfield 22, 3) := by decide +kernel
theorem dX1_has_9 : decode cX1_has 9 = .ok (.if_icmp .ge 16, 3) := by decide +kernel
theorem dX1_has_12 : decode cX1_has 12 = .ok (.iload_n 1, 1) := by decide +kernel
theorem dX1_has_13 : decode cX1_has 13 = .ok (.aload_n 0, 1) := by decide +kernel
theorem dX1_has_14 : decode cX1_has 14 = .ok (.getfield 11, 3) := by decide +kernel
theorem dX1_has_17 : decode cX1_has 17 = .ok (.arraylength, 1) := by decide +kernel
theorem dX1_has_18 : decode cX1_has 18 = .ok (.if_icmp .ge 7, 3) := by decide +kernel
theorem dX1_has_21 : decode cX1_has 21 = .ok (.iconst 1, 1) := by decide +kernel
theorem dX1_has_22 : decode cX1_has 22 = .ok (.goto 4, 3) := by decide +kernel
theorem dX1_has_25 : decode cX1_has 25 = .ok (.iconst 0, 1) := by decide +kernel
theorem dX1_has_26 : decode cX1_has 26 = .ok (.ireturn, 1) := by decide +kernel
theorem dX1_at_0 : decode cX1_at 0 = .ok (.iload_n 1, 1) := by decide +kernel
theorem dX1_at_1 : decode cX1_at 1 = .ok (.ifCond .lt 21, 3) := by decide +kernel
theorem dX1_at_4 : decode cX1_at 4 = .ok (.iload_n 1, 1) := by decide +kernel
theorem dX1_at_5 : decode cX1_at 5 = .ok (.aload_n 0, 1) := by decide +kernel
theorem dX1_at_6 : decode cX1_at 6 = .ok (.getfield 11, 3) := by decide +kernel
theorem dX1_at_9 : decode cX1_at 9 = .ok (.arraylength, 1) := by decide +kernel
theorem dX1_at_10 : decode cX1_at 10 = .ok (.if_icmp .ge 12, 3) := by decide +kernel
theorem dX1_at_13 : decode cX1_at 13 = .ok (.aload_n 0, 1) := by decide +kernel
theorem dX1_at_14 : decode cX1_at 14 = .ok (.getfield 11, 3) := by decide +kernel
theorem dX1_at_17 : decode cX1_at 17 = .ok (.iload_n 1, 1) := by decide +kernel
theorem dX1_at_18 : decode cX1_at 18 = .ok (.aaload, 1) := by decide +kernel
theorem dX1_at_19 : decode cX1_at 19 = .ok (.goto 7, 3) := by decide +kernel
theorem dX1_at_22 : decode cX1_at 22 = .ok (.aload_n 0, 1) := by decide +kernel
theorem dX1_at_23 : decode cX1_at 23 = .ok (.getfield 18, 3) := by decide +kernel
theorem dX1_at_26 : decode cX1_at 26 = .ok (.areturn, 1) := by decide +kernel
theorem dX1_hasWord_0 : decode cX1_hasWord 0 = .ok (.iconst 0, 1) := by decide +kernel
theorem dX1_hasWord_1 : decode cX1_hasWord 1 = .ok (.istore_n 2, 1) := by decide +kernel
theorem dX1_hasWord_2 : decode cX1_hasWord 2 = .ok (.iload_n 2, 1) := by decide +kernel
theorem dX1_hasWord_3 : decode cX1_hasWord 3 = .ok (.aload_n 0, 1) := by decide +kernel
theorem dX1_hasWord_4 : decode cX1_hasWord 4 = .ok (.getfield 22, 3) := by decide +kernel
theorem dX1_hasWord_7 : decode cX1_hasWord 7 = .ok (.if_icmp .ge 23, 3) := by decide +kernel
theorem dX1_hasWord_10 : decode cX1_hasWord 10 = .ok (.aload_n 0, 1) := by decide +kernel
theorem dX1_hasWord_11 : decode cX1_hasWord 11 = .ok (.iload_n 2, 1) := by decide +kernel
theorem dX1_hasWord_12 : decode cX1_hasWord 12 = .ok (.invokevirtual 29, 3) := by decide +kernel
theorem dX1_hasWord_15 : decode cX1_hasWord 15 = .ok (.getfield 37, 3) := by decide +kernel
theorem dX1_hasWord_18 : decode cX1_hasWord 18 = .ok (.iload_n 1, 1) := by decide +kernel
theorem dX1_hasWord_19 : decode cX1_hasWord 19 = .ok (.if_icmp .ne 5, 3) := by decide +kernel
theorem dX1_hasWord_22 : decode cX1_hasWord 22 = .ok (.iconst 1, 1) := by decide +kernel
theorem dX1_hasWord_23 : decode cX1_hasWord 23 = .ok (.ireturn, 1) := by decide +kernel
theorem dX1_hasWord_24 : decode cX1_hasWord 24 = .ok (.iinc 2 1, 3) := by decide +kernel
theorem dX1_hasWord_27 : decode cX1_hasWord 27 = .ok (.goto (-25), 3) := by decide +kernel
theorem dX1_hasWord_30 : decode cX1_hasWord 30 = .ok (.iconst 0, 1) := by decide +kernel
theorem dX1_hasWord_31 : decode cX1_hasWord 31 = .ok (.ireturn, 1) := by decide +kernel
theorem dX1_add_0 : decode cX1_add 0 = .ok (.aload_n 0, 1) := by decide +kernel
theorem dX1_add_1 : decode cX1_add 1 = .ok (.aload_n 0, 1) := by decide +kernel
theorem dX1_add_2 : decode cX1_add 2 = .ok (.getfield 22, 3) := by decide +kernel
theorem dX1_add_5 : decode cX1_add 5 = .ok (.invokevirtual 29, 3) := by decide +kernel
theorem dX1_add_8 : decode cX1_add 8 = .ok (.astore 5, 2) := by decide +kernel
theorem dX1_add_10 : decode cX1_add 10 = .ok (.aload 5, 2) := by decide +kernel
theorem dX1_add_12 : decode cX1_add 12 = .ok (.iload_n 1, 1) := by decide +kernel
theorem dX1_add_13 : decode cX1_add 13 = .ok (.putfield 37, 3) := by decide +kernel
theorem dX1_add_16 : decode cX1_add 16 = .ok (.aload 5, 2) := by decide +kernel
theorem dX1_add_18 : decode cX1_add 18 = .ok (.iload_n 2, 1) := by decide +kernel
theorem dX1_add_19 : decode cX1_add 19 = .ok (.putfield 40, 3) := by decide +kernel
theorem dX1_add_22 : decode cX1_add 22 = .ok (.aload 5, 2) := by decide +kernel
theorem dX1_add_24 : decode cX1_add 24 = .ok (.iload_n 3, 1) := by decide +kernel
theorem dX1_add_25 : decode cX1_add 25 = .ok (.putfield 43, 3) := by decide +kernel
theorem dX1_add_28 : decode cX1_add 28 = .ok (.aload 5, 2) := by decide +kernel
theorem dX1_add_30 : decode cX1_add 30 = .ok (.iload 4, 2) := by decide +kernel
theorem dX1_add_32 : decode cX1_add 32 = .ok (.putfield 46, 3) := by decide +kernel
theorem dX1_add_35 : decode cX1_add 35 = .ok (.aload 5, 2) := by decide +kernel
theorem dX1_add_37 : decode cX1_add 37 = .ok (.iconst 0, 1) := by decide +kernel
theorem dX1_add_38 : decode cX1_add 38 = .ok (.putfield 49, 3) := by decide +kernel
theorem dX1_add_41 : decode cX1_add 41 = .ok (.aload 5, 2) := by decide +kernel
theorem dX1_add_43 : decode cX1_add 43 = .ok (.iconst 0, 1) := by decide +kernel
theorem dX1_add_44 : decode cX1_add 44 = .ok (.putfield 52, 3) := by decide +kernel
theorem dX1_add_47 : decode cX1_add 47 = .ok (.aload_n 0, 1) := by decide +kernel
theorem dX1_add_48 : decode cX1_add 48 = .ok (.dup, 1) := by decide +kernel
theorem dX1_add_49 : decode cX1_add 49 = .ok (.getfield 22, 3) := by decide +kernel
theorem dX1_add_52 : decode cX1_add 52 = .ok (.iconst 1, 1) := by decide +kernel
theorem dX1_add_53 : decode cX1_add 53 = .ok (.iadd, 1) := by decide +kernel
theorem dX1_add_54 : decode cX1_add 54 = .ok (.putfield 22, 3) := by decide +kernel
theorem dX1_add_57 : decode cX1_add 57 = .ok (.aload_n 0, 1) := by decide +kernel
theorem dX1_add_58 : decode cX1_add 58 = .ok (.getfield 22, 3) := by decide +kernel
theorem dX1_add_61 : decode cX1_add 61 = .ok (.iconst 1, 1) := by decide +kernel
theorem dX1_add_62 : decode cX1_add 62 = .ok (.isub, 1) := by decide +kernel
theorem dX1_add_63 : decode cX1_add 63 = .ok (.ireturn, 1) := by decide +kernel
theorem dX1_reseat_0 : decode cX1_reseat 0 = .ok (.aload_n 0, 1) := by decide +kernel
theorem dX1_reseat_1 : decode cX1_reseat 1 = .ok (.iload_n 1, 1) := by decide +kernel
theorem dX1_reseat_2 : decode cX1_reseat 2 = .ok (.invokevirtual 55, 3) := by decide +kernel
theorem dX1_reseat_5 : decode cX1_reseat 5 = .ok (.ifCond .eq 11, 3) := by decide +kernel
theorem dX1_reseat_8 : decode cX1_reseat 8 = .ok (.aload_n 0, 1) := by decide +kernel
theorem dX1_reseat_9 : decode cX1_reseat 9 = .ok (.iload_n 2, 1) := by decide +kernel
theorem dX1_reseat_10 : decode cX1_reseat 10 = .ok (.invokevirtual 55, 3) := by decide +kernel
theorem dX1_reseat_13 : decode cX1_reseat 13 = .ok (.ifCond .ne 4, 3) := by decide +kernel
theorem dX1_reseat_16 : decode cX1_reseat 16 = .ok (.return_, 1) := by decide +kernel
theorem dX1_reseat_17 : decode cX1_reseat 17 = .ok (.aload_n 0, 1) := by decide +kernel
theorem dX1_reseat_18 : decode cX1_reseat 18 = .ok (.getfield 11, 3) := by decide +kernel
theorem dX1_reseat_21 : decode cX1_reseat 21 = .ok (.iload_n 1, 1) := by decide +kernel
theorem dX1_reseat_22 : decode cX1_reseat 22 = .ok (.aaload, 1) := by decide +kernel
theorem dX1_reseat_23 : decode cX1_reseat 23 = .ok (.astore_n 3, 1) := by decide +kernel
theorem dX1_reseat_24 : decode cX1_reseat 24 = .ok (.iload_n 1, 1) := by decide +kernel
theorem dX1_reseat_25 : decode cX1_reseat 25 = .ok (.istore 4, 2) := by decide +kernel
theorem dX1_reseat_27 : decode cX1_reseat 27 = .ok (.iload 4, 2) := by decide +kernel
theorem dX1_reseat_29 : decode cX1_reseat 29 = .ok (.iload_n 2, 1) := by decide +kernel
theorem dX1_reseat_30 : decode cX1_reseat 30 = .ok (.if_icmp .ge 25, 3) := by decide +kernel
theorem dX1_reseat_33 : decode cX1_reseat 33 = .ok (.aload_n 0, 1) := by decide +kernel
theorem dX1_reseat_34 : decode cX1_reseat 34 = .ok (.getfield 11, 3) := by decide +kernel
theorem dX1_reseat_37 : decode cX1_reseat 37 = .ok (.iload 4, 2) := by decide +kernel
theorem dX1_reseat_39 : decode cX1_reseat 39 = .ok (.aload_n 0, 1) := by decide +kernel
theorem dX1_reseat_40 : decode cX1_reseat 40 = .ok (.getfield 11, 3) := by decide +kernel
theorem dX1_reseat_43 : decode cX1_reseat 43 = .ok (.iload 4, 2) := by decide +kernel
theorem dX1_reseat_45 : decode cX1_reseat 45 = .ok (.iconst 1, 1) := by decide +kernel
theorem dX1_reseat_46 : decode cX1_reseat 46 = .ok (.iadd, 1) := by decide +kernel
theorem dX1_reseat_47 : decode cX1_reseat 47 = .ok (.aaload, 1) := by decide +kernel
theorem dX1_reseat_48 : decode cX1_reseat 48 = .ok (.aastore, 1) := by decide +kernel
theorem dX1_reseat_49 : decode cX1_reseat 49 = .ok (.iinc 4 1, 3) := by decide +kernel
theorem dX1_reseat_52 : decode cX1_reseat 52 = .ok (.goto (-25), 3) := by decide +kernel
theorem dX1_reseat_55 : decode cX1_reseat 55 = .ok (.iload_n 1, 1) := by decide +kernel
theorem dX1_reseat_56 : decode cX1_reseat 56 = .ok (.istore 4, 2) := by decide +kernel
theorem dX1_reseat_58 : decode cX1_reseat 58 = .ok (.iload 4, 2) := by decide +kernel
theorem dX1_reseat_60 : decode cX1_reseat 60 = .ok (.iload_n 2, 1) := by decide +kernel
theorem dX1_reseat_61 : decode cX1_reseat 61 = .ok (.if_icmp .le 25, 3) := by decide +kernel
theorem dX1_reseat_64 : decode cX1_reseat 64 = .ok (.aload_n 0, 1) := by decide +kernel
theorem dX1_reseat_65 : decode cX1_reseat 65 = .ok (.getfield 11, 3) := by decide +kernel
theorem dX1_reseat_68 : decode cX1_reseat 68 = .ok (.iload 4, 2) := by decide +kernel
theorem dX1_reseat_70 : decode cX1_reseat 70 = .ok (.aload_n 0, 1) := by decide +kernel
theorem dX1_reseat_71 : decode cX1_reseat 71 = .ok (.getfield 11, 3) := by decide +kernel
theorem dX1_reseat_74 : decode cX1_reseat 74 = .ok (.iload 4, 2) := by decide +kernel
theorem dX1_reseat_76 : decode cX1_reseat 76 = .ok (.iconst 1, 1) := by decide +kernel
theorem dX1_reseat_77 : decode cX1_reseat 77 = .ok (.isub, 1) := by decide +kernel
theorem dX1_reseat_78 : decode cX1_reseat 78 = .ok (.aaload, 1) := by decide +kernel
theorem dX1_reseat_79 : decode cX1_reseat 79 = .ok (.aastore, 1) := by decide +kernel
theorem dX1_reseat_80 : decode cX1_reseat 80 = .ok (.iinc 4 (-1), 3) := by decide +kernel
theorem dX1_reseat_83 : decode cX1_reseat 83 = .ok (.goto (-25), 3) := by decide +kernel
theorem dX1_reseat_86 : decode cX1_reseat 86 = .ok (.aload_n 0, 1) := by decide +kernel
theorem dX1_reseat_87 : decode cX1_reseat 87 = .ok (.getfield 11, 3) := by decide +kernel
theorem dX1_reseat_90 : decode cX1_reseat 90 = .ok (.iload_n 2, 1) := by decide +kernel
theorem dX1_reseat_91 : decode cX1_reseat 91 = .ok (.aload_n 3, 1) := by decide +kernel
theorem dX1_reseat_92 : decode cX1_reseat 92 = .ok (.aastore, 1) := by decide +kernel
theorem dX1_reseat_93 : decode cX1_reseat 93 = .ok (.iconst 0, 1) := by decide +kernel
theorem dX1_reseat_94 : decode cX1_reseat 94 = .ok (.istore 4, 2) := by decide +kernel
theorem dX1_reseat_96 : decode cX1_reseat 96 = .ok (.iload 4, 2) := by decide +kernel
theorem dX1_reseat_98 : decode cX1_reseat 98 = .ok (.aload_n 0, 1) := by decide +kernel
theorem dX1_reseat_99 : decode cX1_reseat 99 = .ok (.getfield 22, 3) := by decide +kernel
theorem dX1_reseat_102 : decode cX1_reseat 102 = .ok (.if_icmp .ge 32, 3) := by decide +kernel
theorem dX1_reseat_105 : decode cX1_reseat 105 = .ok (.aload_n 0, 1) := by decide +kernel
theorem dX1_reseat_106 : decode cX1_reseat 106 = .ok (.iload 4, 2) := by decide +kernel
theorem dX1_reseat_108 : decode cX1_reseat 108 = .ok (.invokevirtual 29, 3) := by decide +kernel
theorem dX1_reseat_111 : decode cX1_reseat 111 = .ok (.aload_n 0, 1) := by decide +kernel
theorem dX1_reseat_112 : decode cX1_reseat 112 = .ok (.iload 4, 2) := by decide +kernel
theorem dX1_reseat_114 : decode cX1_reseat 114 = .ok (.invokevirtual 29, 3) := by decide +kernel
theorem dX1_reseat_117 : decode cX1_reseat 117 = .ok (.getfield 52, 3) := by decide +kernel
theorem dX1_reseat_120 : decode cX1_reseat 120 = .ok (.iload_n 1, 1) := by decide +kernel
theorem dX1_reseat_121 : decode cX1_reseat 121 = .ok (.iload_n 2, 1) := by decide +kernel
theorem dX1_reseat_122 : decode cX1_reseat 122 = .ok (.invokestatic 59, 3) := by decide +kernel
theorem dX1_reseat_125 : decode cX1_reseat 125 = .ok (.putfield 52, 3) := by decide +kernel
theorem dX1_reseat_128 : decode cX1_reseat 128 = .ok (.iinc 4 1, 3) := by decide +kernel
theorem dX1_reseat_131 : decode cX1_reseat 131 = .ok (.goto (-35), 3) := by decide +kernel
theorem dX1_reseat_134 : decode cX1_reseat 134 = .ok (.return_, 1) := by decide +kernel
theorem dX1_takeOut_0 : decode cX1_takeOut 0 = .ok (.aload_n 0, 1) := by decide +kernel
theorem dX1_takeOut_1 : decode cX1_takeOut 1 = .ok (.iload_n 1, 1) := by decide +kernel
theorem dX1_takeOut_2 : decode cX1_takeOut 2 = .ok (.invokevirtual 55, 3) := by decide +kernel
theorem dX1_takeOut_5 : decode cX1_takeOut 5 = .ok (.ifCond .ne 4, 3) := by decide +kernel
theorem dX1_takeOut_8 : decode cX1_takeOut 8 = .ok (.return_, 1) := by decide +kernel
theorem dX1_takeOut_9 : decode cX1_takeOut 9 = .ok (.aload_n 0, 1) := by decide +kernel
theorem dX1_takeOut_10 : decode cX1_takeOut 10 = .ok (.iload_n 1, 1) := by decide +kernel
theorem dX1_takeOut_11 : decode cX1_takeOut 11 = .ok (.aload_n 0, 1) := by decide +kernel
theorem dX1_takeOut_12 : decode cX1_takeOut 12 = .ok (.getfield 22, 3) := by decide +kernel
theorem dX1_takeOut_15 : decode cX1_takeOut 15 = .ok (.iconst 1, 1) := by decide +kernel
theorem dX1_takeOut_16 : decode cX1_takeOut 16 = .ok (.isub, 1) := by decide +kernel
theorem dX1_takeOut_17 : decode cX1_takeOut 17 = .ok (.invokevirtual 63, 3) := by decide +kernel
theorem dX1_takeOut_20 : decode cX1_takeOut 20 = .ok (.aload_n 0, 1) := by decide +kernel
theorem dX1_takeOut_21 : decode cX1_takeOut 21 = .ok (.dup, 1) := by decide +kernel
theorem dX1_takeOut_22 : decode cX1_takeOut 22 = .ok (.getfield 22, 3) := by decide +kernel
theorem dX1_takeOut_25 : decode cX1_takeOut 25 = .ok (.iconst 1, 1) := by decide +kernel
theorem dX1_takeOut_26 : decode cX1_takeOut 26 = .ok (.isub, 1) := by decide +kernel
theorem dX1_takeOut_27 : decode cX1_takeOut 27 = .ok (.putfield 22, 3) := by decide +kernel
theorem dX1_takeOut_30 : decode cX1_takeOut 30 = .ok (.iconst 0, 1) := by decide +kernel
theorem dX1_takeOut_31 : decode cX1_takeOut 31 = .ok (.istore_n 2, 1) := by decide +kernel
theorem dX1_takeOut_32 : decode cX1_takeOut 32 = .ok (.iload_n 2, 1) := by decide +kernel
theorem dX1_takeOut_33 : decode cX1_takeOut 33 = .ok (.aload_n 0, 1) := by decide +kernel
theorem dX1_takeOut_34 : decode cX1_takeOut 34 = .ok (.getfield 22, 3) := by decide +kernel
theorem dX1_takeOut_37 : decode cX1_takeOut 37 = .ok (.if_icmp .ge 32, 3) := by decide +kernel
theorem dX1_takeOut_40 : decode cX1_takeOut 40 = .ok (.aload_n 0, 1) := by decide +kernel
theorem dX1_takeOut_41 : decode cX1_takeOut 41 = .ok (.iload_n 2, 1) := by decide +kernel
theorem dX1_takeOut_42 : decode cX1_takeOut 42 = .ok (.invokevirtual 29, 3) := by decide +kernel
theorem dX1_takeOut_45 : decode cX1_takeOut 45 = .ok (.aload_n 0, 1) := by decide +kernel
theorem dX1_takeOut_46 : decode cX1_takeOut 46 = .ok (.iload_n 2, 1) := by decide +kernel
theorem dX1_takeOut_47 : decode cX1_takeOut 47 = .ok (.invokevirtual 29, 3) := by decide +kernel
theorem dX1_takeOut_50 : decode cX1_takeOut 50 = .ok (.getfield 52, 3) := by decide +kernel
theorem dX1_takeOut_53 : decode cX1_takeOut 53 = .ok (.aload_n 0, 1) := by decide +kernel
theorem dX1_takeOut_54 : decode cX1_takeOut 54 = .ok (.getfield 22, 3) := by decide +kernel
theorem dX1_takeOut_57 : decode cX1_takeOut 57 = .ok (.invokestatic 67, 3) := by decide +kernel
theorem dX1_takeOut_60 : decode cX1_takeOut 60 = .ok (.putfield 52, 3) := by decide +kernel
theorem dX1_takeOut_63 : decode cX1_takeOut 63 = .ok (.iinc 2 1, 3) := by decide +kernel
theorem dX1_takeOut_66 : decode cX1_takeOut 66 = .ok (.goto (-34), 3) := by decide +kernel
theorem dX1_takeOut_69 : decode cX1_takeOut 69 = .ok (.return_, 1) := by decide +kernel
theorem dX1_countRules_0 : decode cX1_countRules 0 = .ok (.iconst 0, 1) := by decide +kernel
theorem dX1_countRules_1 : decode cX1_countRules 1 = .ok (.istore_n 1, 1) := by decide +kernel
theorem dX1_countRules_2 : decode cX1_countRules 2 = .ok (.iconst 0, 1) := by decide +kernel
theorem dX1_countRules_3 : decode cX1_countRules 3 = .ok (.istore_n 2, 1) := by decide +kernel
theorem dX1_countRules_4 : decode cX1_countRules 4 = .ok (.iload_n 2, 1) := by decide +kernel
theorem dX1_countRules_5 : decode cX1_countRules 5 = .ok (.aload_n 0, 1) := by decide +kernel
theorem dX1_countRules_6 : decode cX1_countRules 6 = .ok (.getfield 22, 3) := by decide +kernel
theorem dX1_countRules_9 : decode cX1_countRules 9 = .ok (.if_icmp .ge 23, 3) := by decide +kernel
theorem dX1_countRules_12 : decode cX1_countRules 12 = .ok (.iload_n 1, 1) := by decide +kernel
theorem dX1_countRules_13 : decode cX1_countRules 13 = .ok (.aload_n 0, 1) := by decide +kernel
theorem dX1_countRules_14 : decode cX1_countRules 14 = .ok (.iload_n 2, 1) := by decide +kernel
theorem dX1_countRules_15 : decode cX1_countRules 15 = .ok (.invokevirtual 29, 3) := by decide +kernel
theorem dX1_countRules_18 : decode cX1_countRules 18 = .ok (.getfield 52, 3) := by decide +kernel
theorem dX1_countRules_21 : decode cX1_countRules 21 = .ok (.invokestatic 71, 3) := by decide +kernel
theorem dX1_countRules_24 : decode cX1_countRules 24 = .ok (.iadd, 1) := by decide +kernel
theorem dX1_countRules_25 : decode cX1_countRules 25 = .ok (.istore_n 1, 1) := by decide +kernel
theorem dX1_countRules_26 : decode cX1_countRules 26 = .ok (.iinc 2 1, 3) := by decide +kernel
theorem dX1_countRules_29 : decode cX1_countRules 29 = .ok (.goto (-25), 3) := by decide +kernel
theorem dX1_countRules_32 : decode cX1_countRules 32 = .ok (.iload_n 1, 1) := by decide +kernel
theorem dX1_countRules_33 : decode cX1_countRules 33 = .ok (.ireturn, 1) := by decide +kernel
theorem dX1_clashesOf_0 : decode cX1_clashesOf 0 = .ok (.iconst 0, 1) := by decide +kernel
theorem dX1_clashesOf_1 : decode cX1_clashesOf 1 = .ok (.istore_n 2, 1) := by decide +kernel
theorem dX1_clashesOf_2 : decode cX1_clashesOf 2 = .ok (.iconst 0, 1) := by decide +kernel
theorem dX1_clashesOf_3 : decode cX1_clashesOf 3 = .ok (.istore_n 3, 1) := by decide +kernel
theorem dX1_clashesOf_4 : decode cX1_clashesOf 4 = .ok (.iload_n 3, 1) := by decide +kernel
theorem dX1_clashesOf_5 : decode cX1_clashesOf 5 = .ok (.aload_n 0, 1) := by decide +kernel
theorem dX1_clashesOf_6 : decode cX1_clashesOf 6 = .ok (.getfield 22, 3) := by decide +kernel
theorem dX1_clashesOf_9 : decode cX1_clashesOf 9 = .ok (.if_icmp .ge 36, 3) := by decide +kernel
theorem dX1_clashesOf_12 : decode cX1_clashesOf 12 = .ok (.iload_n 3, 1) := by decide +kernel
theorem dX1_clashesOf_13 : decode cX1_clashesOf 13 = .ok (.iload_n 1, 1) := by decide +kernel
theorem dX1_clashesOf_14 : decode cX1_clashesOf 14 = .ok (.if_icmp .eq 25, 3) := by decide +kernel
theorem dX1_clashesOf_17 : decode cX1_clashesOf 17 = .ok (.aload_n 0, 1) := by decide +kernel
theorem dX1_clashesOf_18 : decode cX1_clashesOf 18 = .ok (.iload_n 1, 1) := by decide +kernel
theorem dX1_clashesOf_19 : decode cX1_clashesOf 19 = .ok (.invokevirtual 29, 3) := by decide +kernel
theorem dX1_clashesOf_22 : decode cX1_clashesOf 22 = .ok (.aload_n 0, 1) := by decide +kernel
theorem dX1_clashesOf_23 : decode cX1_clashesOf 23 = .ok (.iload_n 3, 1) := by decide +kernel
theorem dX1_clashesOf_24 : decode cX1_clashesOf 24 = .ok (.invokevirtual 29, 3) := by decide +kernel
theorem dX1_clashesOf_27 : decode cX1_clashesOf 27 = .ok (.invokevirtual 77, 3) := by decide +kernel
theorem dX1_clashesOf_30 : decode cX1_clashesOf 30 = .ok (.ifCond .eq 9, 3) := by decide +kernel
theorem dX1_clashesOf_33 : decode cX1_clashesOf 33 = .ok (.iload_n 2, 1) := by decide +kernel
theorem dX1_clashesOf_34 : decode cX1_clashesOf 34 = .ok (.iconst 1, 1) := by decide +kernel
theorem dX1_clashesOf_35 : decode cX1_clashesOf 35 = .ok (.iload_n 3, 1) := by decide +kernel
theorem dX1_clashesOf_36 : decode cX1_clashesOf 36 = .ok (.ishl, 1) := by decide +kernel
theorem dX1_clashesOf_37 : decode cX1_clashesOf 37 = .ok (.ior, 1) := by decide +kernel
theorem dX1_clashesOf_38 : decode cX1_clashesOf 38 = .ok (.istore_n 2, 1) := by decide +kernel
theorem dX1_clashesOf_39 : decode cX1_clashesOf 39 = .ok (.iinc 3 1, 3) := by decide +kernel
theorem dX1_clashesOf_42 : decode cX1_clashesOf 42 = .ok (.goto (-38), 3) := by decide +kernel
theorem dX1_clashesOf_45 : decode cX1_clashesOf 45 = .ok (.iload_n 2, 1) := by decide +kernel
theorem dX1_clashesOf_46 : decode cX1_clashesOf 46 = .ok (.ireturn, 1) := by decide +kernel
theorem dX1_countClashingPairs_0 : decode cX1_countClashingPairs 0 = .ok (.iconst 0, 1) := by decide +kernel
theorem dX1_countClashingPairs_1 : decode cX1_countClashingPairs 1 = .ok (.istore_n 1, 1) := by decide +kernel
theorem dX1_countClashingPairs_2 : decode cX1_countClashingPairs 2 = .ok (.iconst 0, 1) := by decide +kernel
theorem dX1_countClashingPairs_3 : decode cX1_countClashingPairs 3 = .ok (.istore_n 2, 1) := by decide +kernel
theorem dX1_countClashingPairs_4 : decode cX1_countClashingPairs 4 = .ok (.iload_n 2, 1) := by decide +kernel
theorem dX1_countClashingPairs_5 : decode cX1_countClashingPairs 5 = .ok (.aload_n 0, 1) := by decide +kernel
theorem dX1_countClashingPairs_6 : decode cX1_countClashingPairs 6 = .ok (.getfield 22, 3) := by decide +kernel
theorem dX1_countClashingPairs_9 : decode cX1_countClashingPairs 9 = .ok (.if_icmp .ge 20, 3) := by decide +kernel
theorem dX1_countClashingPairs_12 : decode cX1_countClashingPairs 12 = .ok (.iload_n 1, 1) := by decide +kernel
theorem dX1_countClashingPairs_13 : decode cX1_countClashingPairs 13 = .ok (.aload_n 0, 1) := by decide +kernel
theorem dX1_countClashingPairs_14 : decode cX1_countClashingPairs 14 = .ok (.iload_n 2, 1) := by decide +kernel
theorem dX1_countClashingPairs_15 : decode cX1_countClashingPairs 15 = .ok (.invokevirtual 81, 3) := by decide +kernel
theorem dX1_countClashingPairs_18 : decode cX1_countClashingPairs 18 = .ok (.invokestatic 71, 3) := by decide +kernel
theorem dX1_countClashingPairs_21 : decode cX1_countClashingPairs 21 = .ok (.iadd, 1) := by decide +kernel
theorem dX1_countClashingPairs_22 : decode cX1_countClashingPairs 22 = .ok (.istore_n 1, 1) := by decide +kernel
theorem dX1_countClashingPairs_23 : decode cX1_countClashingPairs 23 = .ok (.iinc 2 1, 3) := by decide +kernel
theorem dX1_countClashingPairs_26 : decode cX1_countClashingPairs 26 = .ok (.goto (-22), 3) := by decide +kernel
theorem dX1_countClashingPairs_29 : decode cX1_countClashingPairs 29 = .ok (.iload_n 1, 1) := by decide +kernel
theorem dX1_countClashingPairs_30 : decode cX1_countClashingPairs 30 = .ok (.iconst 2, 1) := by decide +kernel
theorem dX1_countClashingPairs_31 : decode cX1_countClashingPairs 31 = .ok (.idiv, 1) := by decide +kernel
theorem dX1_countClashingPairs_32 : decode cX1_countClashingPairs 32 = .ok (.ireturn, 1) := by decide +kernel
theorem dX1_leastOccurrences_0 : decode cX1_leastOccurrences 0 = .ok (.iconst 0, 1) := by decide +kernel
theorem dX1_leastOccurrences_1 : decode cX1_leastOccurrences 1 = .ok (.istore_n 1, 1) := by decide +kernel
theorem dX1_leastOccurrences_2 : decode cX1_leastOccurrences 2 = .ok (.iconst 0, 1) := by decide +kernel
theorem dX1_leastOccurrences_3 : decode cX1_leastOccurrences 3 = .ok (.istore_n 2, 1) := by decide +kernel
theorem dX1_leastOccurrences_4 : decode cX1_leastOccurrences 4 = .ok (.iload_n 2, 1) := by decide +kernel
theorem dX1_leastOccurrences_5 : decode cX1_leastOccurrences 5 = .ok (.aload_n 0, 1) := by decide +kernel
theorem dX1_leastOccurrences_6 : decode cX1_leastOccurrences 6 = .ok (.getfield 22, 3) := by decide +kernel
theorem dX1_leastOccurrences_9 : decode cX1_leastOccurrences 9 = .ok (.if_icmp .ge 20, 3) := by decide +kernel
theorem dX1_leastOccurrences_12 : decode cX1_leastOccurrences 12 = .ok (.iload_n 1, 1) := by decide +kernel
theorem dX1_leastOccurrences_13 : decode cX1_leastOccurrences 13 = .ok (.aload_n 0, 1) := by decide +kernel
theorem dX1_leastOccurrences_14 : decode cX1_leastOccurrences 14 = .ok (.iload_n 2, 1) := by decide +kernel
theorem dX1_leastOccurrences_15 : decode cX1_leastOccurrences 15 = .ok (.invokevirtual 29, 3) := by decide +kernel
theorem dX1_leastOccurrences_18 : decode cX1_leastOccurrences 18 = .ok (.getfield 43, 3) := by decide +kernel
theorem dX1_leastOccurrences_21 : decode cX1_leastOccurrences 21 = .ok (.iadd, 1) := by decide +kernel
theorem dX1_leastOccurrences_22 : decode cX1_leastOccurrences 22 = .ok (.istore_n 1, 1) := by decide +kernel
theorem dX1_leastOccurrences_23 : decode cX1_leastOccurrences 23 = .ok (.iinc 2 1, 3) := by decide +kernel
theorem dX1_leastOccurrences_26 : decode cX1_leastOccurrences 26 = .ok (.goto (-22), 3) := by decide +kernel
theorem dX1_leastOccurrences_29 : decode cX1_leastOccurrences 29 = .ok (.iload_n 1, 1) := by decide +kernel
theorem dX1_leastOccurrences_30 : decode cX1_leastOccurrences 30 = .ok (.ireturn, 1) := by decide +kernel
theorem dX1_mostOccurrences_0 : decode cX1_mostOccurrences 0 = .ok (.iconst 0, 1) := by decide +kernel
theorem dX1_mostOccurrences_1 : decode cX1_mostOccurrences 1 = .ok (.istore_n 1, 1) := by decide +kernel
theorem dX1_mostOccurrences_2 : decode cX1_mostOccurrences 2 = .ok (.iconst 0, 1) := by decide +kernel
theorem dX1_mostOccurrences_3 : decode cX1_mostOccurrences 3 = .ok (.istore_n 2, 1) := by decide +kernel
theorem dX1_mostOccurrences_4 : decode cX1_mostOccurrences 4 = .ok (.iload_n 2, 1) := by decide +kernel
theorem dX1_mostOccurrences_5 : decode cX1_mostOccurrences 5 = .ok (.aload_n 0, 1) := by decide +kernel
theorem dX1_mostOccurrences_6 : decode cX1_mostOccurrences 6 = .ok (.getfield 22, 3) := by decide +kernel
theorem dX1_mostOccurrences_9 : decode cX1_mostOccurrences 9 = .ok (.if_icmp .ge 20, 3) := by decide +kernel
theorem dX1_mostOccurrences_12 : decode cX1_mostOccurrences 12 = .ok (.iload_n 1, 1) := by decide +kernel
theorem dX1_mostOccurrences_13 : decode cX1_mostOccurrences 13 = .ok (.aload_n 0, 1) := by decide +kernel
theorem dX1_mostOccurrences_14 : decode cX1_mostOccurrences 14 = .ok (.iload_n 2, 1) := by decide +kernel
theorem dX1_mostOccurrences_15 : decode cX1_mostOccurrences 15 = .ok (.invokevirtual 29, 3) := by decide +kernel
theorem dX1_mostOccurrences_18 : decode cX1_mostOccurrences 18 = .ok (.getfield 46, 3) := by decide +kernel
theorem dX1_mostOccurrences_21 : decode cX1_mostOccurrences 21 = .ok (.iadd, 1) := by decide +kernel
theorem dX1_mostOccurrences_22 : decode cX1_mostOccurrences 22 = .ok (.istore_n 1, 1) := by decide +kernel
theorem dX1_mostOccurrences_23 : decode cX1_mostOccurrences 23 = .ok (.iinc 2 1, 3) := by decide +kernel
theorem dX1_mostOccurrences_26 : decode cX1_mostOccurrences 26 = .ok (.goto (-22), 3) := by decide +kernel
theorem dX1_mostOccurrences_29 : decode cX1_mostOccurrences 29 = .ok (.iload_n 1, 1) := by decide +kernel
theorem dX1_mostOccurrences_30 : decode cX1_mostOccurrences 30 = .ok (.ireturn, 1) := by decide +kernel
theorem dX1_tallies_0 : decode cX1_tallies 0 = .ok (.iconst 1, 1) := by decide +kernel
theorem dX1_tallies_1 : decode cX1_tallies 1 = .ok (.iconst 2, 1) := by decide +kernel
theorem dX1_tallies_2 : decode cX1_tallies 2 = .ok (.aload_n 0, 1) := by decide +kernel
theorem dX1_tallies_3 : decode cX1_tallies 3 = .ok (.getfield 22, 3) := by decide +kernel
theorem dX1_tallies_6 : decode cX1_tallies 6 = .ok (.imul, 1) := by decide +kernel
theorem dX1_tallies_7 : decode cX1_tallies 7 = .ok (.ishl, 1) := by decide +kernel
theorem dX1_tallies_8 : decode cX1_tallies 8 = .ok (.ireturn, 1) := by decide +kernel
theorem dX1_lengthOf_0 : decode cX1_lengthOf 0 = .ok (.iconst 0, 1) := by decide +kernel
theorem dX1_lengthOf_1 : decode cX1_lengthOf 1 = .ok (.istore_n 2, 1) := by decide +kernel
theorem dX1_lengthOf_2 : decode cX1_lengthOf 2 = .ok (.iconst 0, 1) := by decide +kernel
theorem dX1_lengthOf_3 : decode cX1_lengthOf 3 = .ok (.istore_n 3, 1) := by decide +kernel
theorem dX1_lengthOf_4 : decode cX1_lengthOf 4 = .ok (.iload_n 3, 1) := by decide +kernel
theorem dX1_lengthOf_5 : decode cX1_lengthOf 5 = .ok (.aload_n 0, 1) := by decide +kernel
theorem dX1_lengthOf_6 : decode cX1_lengthOf 6 = .ok (.getfield 22, 3) := by decide +kernel
theorem dX1_lengthOf_9 : decode cX1_lengthOf 9 = .ok (.if_icmp .ge 17, 3) := by decide +kernel
theorem dX1_lengthOf_12 : decode cX1_lengthOf 12 = .ok (.iload_n 2, 1) := by decide +kernel
theorem dX1_lengthOf_13 : decode cX1_lengthOf 13 = .ok (.iload_n 1, 1) := by decide +kernel
theorem dX1_lengthOf_14 : decode cX1_lengthOf 14 = .ok (.iload_n 3, 1) := by decide +kernel
theorem dX1_lengthOf_15 : decode cX1_lengthOf 15 = .ok (.invokestatic 84, 3) := by decide +kernel
theorem dX1_lengthOf_18 : decode cX1_lengthOf 18 = .ok (.iadd, 1) := by decide +kernel
theorem dX1_lengthOf_19 : decode cX1_lengthOf 19 = .ok (.istore_n 2, 1) := by decide +kernel
theorem dX1_lengthOf_20 : decode cX1_lengthOf 20 = .ok (.iinc 3 1, 3) := by decide +kernel
theorem dX1_lengthOf_23 : decode cX1_lengthOf 23 = .ok (.goto (-19), 3) := by decide +kernel
theorem dX1_lengthOf_26 : decode cX1_lengthOf 26 = .ok (.iload_n 2, 1) := by decide +kernel
theorem dX1_lengthOf_27 : decode cX1_lengthOf 27 = .ok (.ireturn, 1) := by decide +kernel
theorem dX1_isEnough_0 : decode cX1_isEnough 0 = .ok (.iconst 0, 1) := by decide +kernel
theorem dX1_isEnough_1 : decode cX1_isEnough 1 = .ok (.istore_n 2, 1) := by decide +kernel
theorem dX1_isEnough_2 : decode cX1_isEnough 2 = .ok (.iload_n 2, 1) := by decide +kernel
theorem dX1_isEnough_3 : decode cX1_isEnough 3 = .ok (.aload_n 0, 1) := by decide +kernel
theorem dX1_isEnough_4 : decode cX1_isEnough 4 = .ok (.getfield 22, 3) := by decide +kernel
theorem dX1_isEnough_7 : decode cX1_isEnough 7 = .ok (.if_icmp .ge 27, 3) := by decide +kernel
theorem dX1_isEnough_10 : decode cX1_isEnough 10 = .ok (.iload_n 1, 1) := by decide +kernel
theorem dX1_isEnough_11 : decode cX1_isEnough 11 = .ok (.iload_n 2, 1) := by decide +kernel
theorem dX1_isEnough_12 : decode cX1_isEnough 12 = .ok (.invokestatic 84, 3) := by decide +kernel
theorem dX1_isEnough_15 : decode cX1_isEnough 15 = .ok (.aload_n 0, 1) := by decide +kernel
theorem dX1_isEnough_16 : decode cX1_isEnough 16 = .ok (.iload_n 2, 1) := by decide +kernel
theorem dX1_isEnough_17 : decode cX1_isEnough 17 = .ok (.invokevirtual 29, 3) := by decide +kernel
theorem dX1_isEnough_20 : decode cX1_isEnough 20 = .ok (.getfield 43, 3) := by decide +kernel
theorem dX1_isEnough_23 : decode cX1_isEnough 23 = .ok (.if_icmp .ge 5, 3) := by decide +kernel
theorem dX1_isEnough_26 : decode cX1_isEnough 26 = .ok (.iconst 0, 1) := by decide +kernel
theorem dX1_isEnough_27 : decode cX1_isEnough 27 = .ok (.ireturn, 1) := by decide +kernel
theorem dX1_isEnough_28 : decode cX1_isEnough 28 = .ok (.iinc 2 1, 3) := by decide +kernel
theorem dX1_isEnough_31 : decode cX1_isEnough 31 = .ok (.goto (-29), 3) := by decide +kernel
theorem dX1_isEnough_34 : decode cX1_isEnough 34 = .ok (.iconst 1, 1) := by decide +kernel
theorem dX1_isEnough_35 : decode cX1_isEnough 35 = .ok (.ireturn, 1) := by decide +kernel
theorem dX1_presentIn_0 : decode cX1_presentIn 0 = .ok (.iconst 0, 1) := by decide +kernel
theorem dX1_presentIn_1 : decode cX1_presentIn 1 = .ok (.istore_n 2, 1) := by decide +kernel
theorem dX1_presentIn_2 : decode cX1_presentIn 2 = .ok (.iconst 0, 1) := by decide +kernel
theorem dX1_presentIn_3 : decode cX1_presentIn 3 = .ok (.istore_n 3, 1) := by decide +kernel
theorem dX1_presentIn_4 : decode cX1_presentIn 4 = .ok (.iload_n 3, 1) := by decide +kernel
theorem dX1_presentIn_5 : decode cX1_presentIn 5 = .ok (.aload_n 0, 1) := by decide +kernel
theorem dX1_presentIn_6 : decode cX1_presentIn 6 = .ok (.getfield 22, 3) := by decide +kernel
theorem dX1_presentIn_9 : decode cX1_presentIn 9 = .ok (.if_icmp .ge 23, 3) := by decide +kernel
theorem dX1_presentIn_12 : decode cX1_presentIn 12 = .ok (.iload_n 1, 1) := by decide +kernel
theorem dX1_presentIn_13 : decode cX1_presentIn 13 = .ok (.iload_n 3, 1) := by decide +kernel
theorem dX1_presentIn_14 : decode cX1_presentIn 14 = .ok (.invokestatic 84, 3) := by decide +kernel
theorem dX1_presentIn_17 : decode cX1_presentIn 17 = .ok (.ifCond .le 9, 3) := by decide +kernel
theorem dX1_presentIn_20 : decode cX1_presentIn 20 = .ok (.iload_n 2, 1) := by decide +kernel
theorem dX1_presentIn_21 : decode cX1_presentIn 21 = .ok (.iconst 1, 1) := by decide +kernel
theorem dX1_presentIn_22 : decode cX1_presentIn 22 = .ok (.iload_n 3, 1) := by decide +kernel
theorem dX1_presentIn_23 : decode cX1_presentIn 23 = .ok (.ishl, 1) := by decide +kernel
theorem dX1_presentIn_24 : decode cX1_presentIn 24 = .ok (.ior, 1) := by decide +kernel
theorem dX1_presentIn_25 : decode cX1_presentIn 25 = .ok (.istore_n 2, 1) := by decide +kernel
theorem dX1_presentIn_26 : decode cX1_presentIn 26 = .ok (.iinc 3 1, 3) := by decide +kernel
theorem dX1_presentIn_29 : decode cX1_presentIn 29 = .ok (.goto (-25), 3) := by decide +kernel
theorem dX1_presentIn_32 : decode cX1_presentIn 32 = .ok (.iload_n 2, 1) := by decide +kernel
theorem dX1_presentIn_33 : decode cX1_presentIn 33 = .ok (.ireturn, 1) := by decide +kernel
theorem dX1_followers_0 : decode cX1_followers 0 = .ok (.aload_n 0, 1) := by decide +kernel
theorem dX1_followers_1 : decode cX1_followers 1 = .ok (.iload_n 1, 1) := by decide +kernel
theorem dX1_followers_2 : decode cX1_followers 2 = .ok (.invokevirtual 87, 3) := by decide +kernel
theorem dX1_followers_5 : decode cX1_followers 5 = .ok (.istore_n 2, 1) := by decide +kernel
theorem dX1_followers_6 : decode cX1_followers 6 = .ok (.iconst 0, 1) := by decide +kernel
theorem dX1_followers_7 : decode cX1_followers 7 = .ok (.istore_n 3, 1) := by decide +kernel
theorem dX1_followers_8 : decode cX1_followers 8 = .ok (.iconst 0, 1) := by decide +kernel
theorem dX1_followers_9 : decode cX1_followers 9 = .ok (.istore 4, 2) := by decide +kernel
theorem dX1_followers_11 : decode cX1_followers 11 = .ok (.iload 4, 2) := by decide +kernel
theorem dX1_followers_13 : decode cX1_followers 13 = .ok (.aload_n 0, 1) := by decide +kernel
theorem dX1_followers_14 : decode cX1_followers 14 = .ok (.getfield 22, 3) := by decide +kernel
theorem dX1_followers_17 : decode cX1_followers 17 = .ok (.if_icmp .ge 48, 3) := by decide +kernel
theorem dX1_followers_20 : decode cX1_followers 20 = .ok (.iload_n 1, 1) := by decide +kernel
theorem dX1_followers_21 : decode cX1_followers 21 = .ok (.iload 4, 2) := by decide +kernel
theorem dX1_followers_23 : decode cX1_followers 23 = .ok (.invokestatic 84, 3) := by decide +kernel
theorem dX1_followers_26 : decode cX1_followers 26 = .ok (.aload_n 0, 1) := by decide +kernel
theorem dX1_followers_27 : decode cX1_followers 27 = .ok (.iload 4, 2) := by decide +kernel
theorem dX1_followers_29 : decode cX1_followers 29 = .ok (.invokevirtual 29, 3) := by decide +kernel
theorem dX1_followers_32 : decode cX1_followers 32 = .ok (.getfield 46, 3) := by decide +kernel
theorem dX1_followers_35 : decode cX1_followers 35 = .ok (.if_icmp .ge 24, 3) := by decide +kernel
theorem dX1_followers_38 : decode cX1_followers 38 = .ok (.aload_n 0, 1) := by decide +kernel
theorem dX1_followers_39 : decode cX1_followers 39 = .ok (.iload 4, 2) := by decide +kernel
theorem dX1_followers_41 : decode cX1_followers 41 = .ok (.invokevirtual 29, 3) := by decide +kernel
theorem dX1_followers_44 : decode cX1_followers 44 = .ok (.getfield 52, 3) := by decide +kernel
theorem dX1_followers_47 : decode cX1_followers 47 = .ok (.iload_n 2, 1) := by decide +kernel
theorem dX1_followers_48 : decode cX1_followers 48 = .ok (.iand, 1) := by decide +kernel
theorem dX1_followers_49 : decode cX1_followers 49 = .ok (.ifCond .ne 10, 3) := by decide +kernel
theorem dX1_followers_52 : decode cX1_followers 52 = .ok (.iload_n 3, 1) := by decide +kernel
theorem dX1_followers_53 : decode cX1_followers 53 = .ok (.iconst 1, 1) := by decide +kernel
theorem dX1_followers_54 : decode cX1_followers 54 = .ok (.iload 4, 2) := by decide +kernel
theorem dX1_followers_56 : decode cX1_followers 56 = .ok (.ishl, 1) := by decide +kernel
theorem dX1_followers_57 : decode cX1_followers 57 = .ok (.ior, 1) := by decide +kernel
theorem dX1_followers_58 : decode cX1_followers 58 = .ok (.istore_n 3, 1) := by decide +kernel
theorem dX1_followers_59 : decode cX1_followers 59 = .ok (.iinc 4 1, 3) := by decide +kernel
theorem dX1_followers_62 : decode cX1_followers 62 = .ok (.goto (-51), 3) := by decide +kernel
theorem dX1_followers_65 : decode cX1_followers 65 = .ok (.iload_n 3, 1) := by decide +kernel
theorem dX1_followers_66 : decode cX1_followers 66 = .ok (.ireturn, 1) := by decide +kernel
theorem dX2_init_0 : decode cX2_init 0 = .ok (.aload_n 0, 1) := by decide +kernel
theorem dX2_init_1 : decode cX2_init 1 = .ok (.invokespecial 3, 3) := by decide +kernel
theorem dX2_init_4 : decode cX2_init 4 = .ok (.aload_n 0, 1) := by decide +kernel
theorem dX2_init_5 : decode cX2_init 5 = .ok (.bipush 8, 2) := by decide +kernel
theorem dX2_init_7 : decode cX2_init 7 = .ok (.anewarray 9, 3) := by decide +kernel
theorem dX2_init_10 : decode cX2_init 10 = .ok (.putfield 11, 3) := by decide +kernel
theorem dX2_init_13 : decode cX2_init 13 = .ok (.iconst 0, 1) := by decide +kernel
theorem dX2_init_14 : decode cX2_init 14 = .ok (.istore_n 1, 1) := by decide +kernel
theorem dX2_init_15 : decode cX2_init 15 = .ok (.iload_n 1, 1) := by decide +kernel
theorem dX2_init_16 : decode cX2_init 16 = .ok (.aload_n 0, 1) := by decide +kernel
theorem dX2_init_17 : decode cX2_init 17 = .ok (.getfield 11, 3) := by decide +kernel
theorem dX2_init_20 : decode cX2_init 20 = .ok (.arraylength, 1) := by decide +kernel
theorem dX2_init_21 : decode cX2_init 21 = .ok (.if_icmp .ge 22, 3) := by decide +kernel
theorem dX2_init_24 : decode cX2_init 24 = .ok (.aload_n 0, 1) := by decide +kernel
theorem dX2_init_25 : decode cX2_init 25 = .ok (.getfield 11, 3) := by decide +kernel
theorem dX2_init_28 : decode cX2_init 28 = .ok (.iload_n 1, 1) := by decide +kernel
theorem dX2_init_29 : decode cX2_init 29 = .ok (.new 9, 3) := by decide +kernel
theorem dX2_init_32 : decode cX2_init 32 = .ok (.dup, 1) := by decide +kernel
theorem dX2_init_33 : decode cX2_init 33 = .ok (.invokespecial 17, 3) := by decide +kernel
theorem dX2_init_36 : decode cX2_init 36 = .ok (.aastore, 1) := by decide +kernel
theorem dX2_init_37 : decode cX2_init 37 = .ok (.iinc 1 1, 3) := by decide +kernel
theorem dX2_init_40 : decode cX2_init 40 = .ok (.goto (-25), 3) := by decide +kernel
theorem dX2_init_43 : decode cX2_init 43 = .ok (.return_, 1) := by decide +kernel
theorem dX2_record_0 : decode cX2_record 0 = .ok (.aload_n 0, 1) := by decide +kernel
theorem dX2_record_1 : decode cX2_record 1 = .ok (.getfield 18, 3) := by decide +kernel
theorem dX2_record_4 : decode cX2_record 4 = .ok (.aload_n 0, 1) := by decide +kernel
theorem dX2_record_5 : decode cX2_record 5 = .ok (.getfield 11, 3) := by decide +kernel
theorem dX2_record_8 : decode cX2_record 8 = .ok (.arraylength, 1) := by decide +kernel
theorem dX2_record_9 : decode cX2_record 9 = .ok (.if_icmp .lt 7, 3) := by decide +kernel
theorem dX2_record_12 : decode cX2_record 12 = .ok (.aload_n 0, 1) := by decide +kernel
theorem dX2_record_13 : decode cX2_record 13 = .ok (.invokevirtual 22, 3) := by decide +kernel
theorem dX2_record_16 : decode cX2_record 16 = .ok (.aload_n 0, 1) := by decide +kernel
theorem dX2_record_17 : decode cX2_record 17 = .ok (.getfield 18, 3) := by decide +kernel
theorem dX2_record_20 : decode cX2_record 20 = .ok (.ifCond .lt 38, 3) := by decide +kernel
theorem dX2_record_23 : decode cX2_record 23 = .ok (.aload_n 0, 1) := by decide +kernel
theorem dX2_record_24 : decode cX2_record 24 = .ok (.getfield 18, 3) := by decide +kernel
theorem dX2_record_27 : decode cX2_record 27 = .ok (.aload_n 0, 1) := by decide +kernel
theorem dX2_record_28 : decode cX2_record 28 = .ok (.getfield 11, 3) := by decide +kernel
theorem dX2_record_31 : decode cX2_record 31 = .ok (.arraylength, 1) := by decide +kernel
theorem dX2_record_32 : decode cX2_record 32 = .ok (.if_icmp .ge 26, 3) := by decide +kernel
theorem dX2_record_35 : decode cX2_record 35 = .ok (.aload_n 0, 1) := by decide +kernel
theorem dX2_record_36 : decode cX2_record 36 = .ok (.getfield 11, 3) := by decide +kernel
theorem dX2_record_39 : decode cX2_record 39 = .ok (.aload_n 0, 1) := by decide +kernel
theorem dX2_record_40 : decode cX2_record 40 = .ok (.getfield 18, 3) := by decide +kernel
theorem dX2_record_43 : decode cX2_record 43 = .ok (.aaload, 1) := by decide +kernel
theorem dX2_record_44 : decode cX2_record 44 = .ok (.aload_n 1, 1) := by decide +kernel
theorem dX2_record_45 : decode cX2_record 45 = .ok (.invokevirtual 25, 3) := by decide +kernel
theorem dX2_record_48 : decode cX2_record 48 = .ok (.aload_n 0, 1) := by decide +kernel
theorem dX2_record_49 : decode cX2_record 49 = .ok (.dup, 1) := by decide +kernel
theorem dX2_record_50 : decode cX2_record 50 = .ok (.getfield 18, 3) := by decide +kernel
theorem dX2_record_53 : decode cX2_record 53 = .ok (.iconst 1, 1) := by decide +kernel
theorem dX2_record_54 : decode cX2_record 54 = .ok (.iadd, 1) := by decide +kernel
theorem dX2_record_55 : decode cX2_record 55 = .ok (.putfield 18, 3) := by decide +kernel
theorem dX2_record_58 : decode cX2_record 58 = .ok (.return_, 1) := by decide +kernel
theorem dX2_dropOldest_0 : decode cX2_dropOldest 0 = .ok (.aload_n 0, 1) := by decide +kernel
theorem dX2_dropOldest_1 : decode cX2_dropOldest 1 = .ok (.getfield 11, 3) := by decide +kernel
theorem dX2_dropOldest_4 : decode cX2_dropOldest 4 = .ok (.iconst 0, 1) := by decide +kernel
theorem dX2_dropOldest_5 : decode cX2_dropOldest 5 = .ok (.aaload, 1) := by decide +kernel
theorem dX2_dropOldest_6 : decode cX2_dropOldest 6 = .ok (.astore_n 1, 1) := by decide +kernel
theorem dX2_dropOldest_7 : decode cX2_dropOldest 7 = .ok (.iconst 1, 1) := by decide +kernel
theorem dX2_dropOldest_8 : decode cX2_dropOldest 8 = .ok (.istore_n 2, 1) := by decide +kernel
theorem dX2_dropOldest_9 : decode cX2_dropOldest 9 = .ok (.iload_n 2, 1) := by decide +kernel
theorem dX2_dropOldest_10 : decode cX2_dropOldest 10 = .ok (.aload_n 0, 1) := by decide +kernel
theorem dX2_dropOldest_11 : decode cX2_dropOldest 11 = .ok (.getfield 11, 3) := by decide +kernel
theorem dX2_dropOldest_14 : decode cX2_dropOldest 14 = .ok (.arraylength, 1) := by decide +kernel
theorem dX2_dropOldest_15 : decode cX2_dropOldest 15 = .ok (.if_icmp .ge 23, 3) := by decide +kernel
theorem dX2_dropOldest_18 : decode cX2_dropOldest 18 = .ok (.aload_n 0, 1) := by decide +kernel
theorem dX2_dropOldest_19 : decode cX2_dropOldest 19 = .ok (.getfield 11, 3) := by decide +kernel
theorem dX2_dropOldest_22 : decode cX2_dropOldest 22 = .ok (.iload_n 2, 1) := by decide +kernel
theorem dX2_dropOldest_23 : decode cX2_dropOldest 23 = .ok (.iconst 1, 1) := by decide +kernel
theorem dX2_dropOldest_24 : decode cX2_dropOldest 24 = .ok (.isub, 1) := by decide +kernel
theorem dX2_dropOldest_25 : decode cX2_dropOldest 25 = .ok (.aload_n 0, 1) := by decide +kernel
theorem dX2_dropOldest_26 : decode cX2_dropOldest 26 = .ok (.getfield 11, 3) := by decide +kernel
theorem dX2_dropOldest_29 : decode cX2_dropOldest 29 = .ok (.iload_n 2, 1) := by decide +kernel
theorem dX2_dropOldest_30 : decode cX2_dropOldest 30 = .ok (.aaload, 1) := by decide +kernel
theorem dX2_dropOldest_31 : decode cX2_dropOldest 31 = .ok (.aastore, 1) := by decide +kernel
theorem dX2_dropOldest_32 : decode cX2_dropOldest 32 = .ok (.iinc 2 1, 3) := by decide +kernel
theorem dX2_dropOldest_35 : decode cX2_dropOldest 35 = .ok (.goto (-26), 3) := by decide +kernel
theorem dX2_dropOldest_38 : decode cX2_dropOldest 38 = .ok (.aload_n 0, 1) := by decide +kernel
theorem dX2_dropOldest_39 : decode cX2_dropOldest 39 = .ok (.getfield 11, 3) := by decide +kernel
theorem dX2_dropOldest_42 : decode cX2_dropOldest 42 = .ok (.aload_n 0, 1) := by decide +kernel
theorem dX2_dropOldest_43 : decode cX2_dropOldest 43 = .ok (.getfield 11, 3) := by decide +kernel
theorem dX2_dropOldest_46 : decode cX2_dropOldest 46 = .ok (.arraylength, 1) := by decide +kernel
theorem dX2_dropOldest_47 : decode cX2_dropOldest 47 = .ok (.iconst 1, 1) := by decide +kernel
theorem dX2_dropOldest_48 : decode cX2_dropOldest 48 = .ok (.isub, 1) := by decide +kernel
theorem dX2_dropOldest_49 : decode cX2_dropOldest 49 = .ok (.aload_n 1, 1) := by decide +kernel
theorem dX2_dropOldest_50 : decode cX2_dropOldest 50 = .ok (.aastore, 1) := by decide +kernel
theorem dX2_dropOldest_51 : decode cX2_dropOldest 51 = .ok (.aload_n 0, 1) := by decide +kernel
theorem dX2_dropOldest_52 : decode cX2_dropOldest 52 = .ok (.aload_n 0, 1) := by decide +kernel
theorem dX2_dropOldest_53 : decode cX2_dropOldest 53 = .ok (.getfield 11, 3) := by decide +kernel
theorem dX2_dropOldest_56 : decode cX2_dropOldest 56 = .ok (.arraylength, 1) := by decide +kernel
theorem dX2_dropOldest_57 : decode cX2_dropOldest 57 = .ok (.iconst 1, 1) := by decide +kernel
theorem dX2_dropOldest_58 : decode cX2_dropOldest 58 = .ok (.isub, 1) := by decide +kernel
theorem dX2_dropOldest_59 : decode cX2_dropOldest 59 = .ok (.putfield 18, 3) := by decide +kernel
theorem dX2_dropOldest_62 : decode cX2_dropOldest 62 = .ok (.return_, 1) := by decide +kernel
theorem dX2_restore_0 : decode cX2_restore 0 = .ok (.aload_n 0, 1) := by decide +kernel
theorem dX2_restore_1 : decode cX2_restore 1 = .ok (.getfield 18, 3) := by decide +kernel
theorem dX2_restore_4 : decode cX2_restore 4 = .ok (.ifCond .le 38, 3) := by decide +kernel
theorem dX2_restore_7 : decode cX2_restore 7 = .ok (.aload_n 0, 1) := by decide +kernel
theorem dX2_restore_8 : decode cX2_restore 8 = .ok (.getfield 18, 3) := by decide +kernel
theorem dX2_restore_11 : decode cX2_restore 11 = .ok (.aload_n 0, 1) := by decide +kernel
theorem dX2_restore_12 : decode cX2_restore 12 = .ok (.getfield 11, 3) := by decide +kernel
theorem dX2_restore_15 : decode cX2_restore 15 = .ok (.arraylength, 1) := by decide +kernel
theorem dX2_restore_16 : decode cX2_restore 16 = .ok (.if_icmp .gt 26, 3) := by decide +kernel
theorem dX2_restore_19 : decode cX2_restore 19 = .ok (.aload_n 0, 1) := by decide +kernel
theorem dX2_restore_20 : decode cX2_restore 20 = .ok (.dup, 1) := by decide +kernel
theorem dX2_restore_21 : decode cX2_restore 21 = .ok (.getfield 18, 3) := by decide +kernel
theorem dX2_restore_24 : decode cX2_restore 24 = .ok (.iconst 1, 1) := by decide +kernel
theorem dX2_restore_25 : decode cX2_restore 25 = .ok (.isub, 1) := by decide +kernel
theorem dX2_restore_26 : decode cX2_restore 26 = .ok (.putfield 18, 3) := by decide +kernel
theorem dX2_restore_29 : decode cX2_restore 29 = .ok (.aload_n 1, 1) := by decide +kernel
theorem dX2_restore_30 : decode cX2_restore 30 = .ok (.aload_n 0, 1) := by decide +kernel
theorem dX2_restore_31 : decode cX2_restore 31 = .ok (.getfield 11, 3) := by decide +kernel
theorem dX2_restore_34 : decode cX2_restore 34 = .ok (.aload_n 0, 1) := by decide +kernel
theorem dX2_restore_35 : decode cX2_restore 35 = .ok (.getfield 18, 3) := by decide +kernel
theorem dX2_restore_38 : decode cX2_restore 38 = .ok (.aaload, 1) := by decide +kernel
theorem dX2_restore_39 : decode cX2_restore 39 = .ok (.invokevirtual 25, 3) := by decide +kernel
theorem dX2_restore_42 : decode cX2_restore 42 = .ok (.return_, 1) := by decide +kernel
theorem dX3_init_0 : decode cX3_init 0 = .ok (.aload_n 0, 1) := by decide +kernel
theorem dX3_init_1 : decode cX3_init 1 = .ok (.invokespecial 3, 3) := by decide +kernel
theorem dX3_init_4 : decode cX3_init 4 = .ok (.return_, 1) := by decide +kernel
theorem dX3_copyFrom_0 : decode cX3_copyFrom 0 = .ok (.aload_n 0, 1) := by decide +kernel
theorem dX3_copyFrom_1 : decode cX3_copyFrom 1 = .ok (.aload_n 1, 1) := by decide +kernel
theorem dX3_copyFrom_2 : decode cX3_copyFrom 2 = .ok (.getfield 9, 3) := by decide +kernel
theorem dX3_copyFrom_5 : decode cX3_copyFrom 5 = .ok (.putfield 9, 3) := by decide +kernel
theorem dX3_copyFrom_8 : decode cX3_copyFrom 8 = .ok (.aload_n 0, 1) := by decide +kernel
theorem dX3_copyFrom_9 : decode cX3_copyFrom 9 = .ok (.aload_n 1, 1) := by decide +kernel
theorem dX3_copyFrom_10 : decode cX3_copyFrom 10 = .ok (.getfield 15, 3) := by decide +kernel
theorem dX3_copyFrom_13 : decode cX3_copyFrom 13 = .ok (.putfield 15, 3) := by decide +kernel
theorem dX3_copyFrom_16 : decode cX3_copyFrom 16 = .ok (.aload_n 0, 1) := by decide +kernel
theorem dX3_copyFrom_17 : decode cX3_copyFrom 17 = .ok (.aload_n 1, 1) := by decide +kernel
theorem dX3_copyFrom_18 : decode cX3_copyFrom 18 = .ok (.getfield 18, 3) := by decide +kernel
theorem dX3_copyFrom_21 : decode cX3_copyFrom 21 = .ok (.putfield 18, 3) := by decide +kernel
theorem dX3_copyFrom_24 : decode cX3_copyFrom 24 = .ok (.aload_n 0, 1) := by decide +kernel
theorem dX3_copyFrom_25 : decode cX3_copyFrom 25 = .ok (.aload_n 1, 1) := by decide +kernel
theorem dX3_copyFrom_26 : decode cX3_copyFrom 26 = .ok (.getfield 21, 3) := by decide +kernel
theorem dX3_copyFrom_29 : decode cX3_copyFrom 29 = .ok (.putfield 21, 3) := by decide +kernel
theorem dX3_copyFrom_32 : decode cX3_copyFrom 32 = .ok (.aload_n 0, 1) := by decide +kernel
theorem dX3_copyFrom_33 : decode cX3_copyFrom 33 = .ok (.aload_n 1, 1) := by decide +kernel
theorem dX3_copyFrom_34 : decode cX3_copyFrom 34 = .ok (.getfield 24, 3) := by decide +kernel
theorem dX3_copyFrom_37 : decode cX3_copyFrom 37 = .ok (.putfield 24, 3) := by decide +kernel
theorem dX3_copyFrom_40 : decode cX3_copyFrom 40 = .ok (.aload_n 0, 1) := by decide +kernel
theorem dX3_copyFrom_41 : decode cX3_copyFrom 41 = .ok (.aload_n 1, 1) := by decide +kernel
theorem dX3_copyFrom_42 : decode cX3_copyFrom 42 = .ok (.getfield 27, 3) := by decide +kernel
theorem dX3_copyFrom_45 : decode cX3_copyFrom 45 = .ok (.putfield 27, 3) := by decide +kernel
theorem dX3_copyFrom_48 : decode cX3_copyFrom 48 = .ok (.return_, 1) := by decide +kernel
theorem dX3_wordLength_0 : decode cX3_wordLength 0 = .ok (.aload_n 0, 1) := by decide +kernel
theorem dX3_wordLength_1 : decode cX3_wordLength 1 = .ok (.getfield 9, 3) := by decide +kernel
theorem dX3_wordLength_4 : decode cX3_wordLength 4 = .ok (.ldc 30, 2) := by decide +kernel
theorem dX3_wordLength_6 : decode cX3_wordLength 6 = .ok (.if_icmp .le 5, 3) := by decide +kernel
theorem dX3_wordLength_9 : decode cX3_wordLength 9 = .ok (.iconst 3, 1) := by decide +kernel
theorem dX3_wordLength_10 : decode cX3_wordLength 10 = .ok (.ireturn, 1) := by decide +kernel
theorem dX3_wordLength_11 : decode cX3_wordLength 11 = .ok (.aload_n 0, 1) := by decide +kernel
theorem dX3_wordLength_12 : decode cX3_wordLength 12 = .ok (.getfield 9, 3) := by decide +kernel
theorem dX3_wordLength_15 : decode cX3_wordLength 15 = .ok (.sipush 255, 3) := by decide +kernel
theorem dX3_wordLength_18 : decode cX3_wordLength 18 = .ok (.if_icmp .le 7, 3) := by decide +kernel
theorem dX3_wordLength_21 : decode cX3_wordLength 21 = .ok (.iconst 2, 1) := by decide +kernel
theorem dX3_wordLength_22 : decode cX3_wordLength 22 = .ok (.goto 15, 3) := by decide +kernel
theorem dX3_wordLength_25 : decode cX3_wordLength 25 = .ok (.aload_n 0, 1) := by decide +kernel
theorem dX3_wordLength_26 : decode cX3_wordLength 26 = .ok (.getfield 9, 3) := by decide +kernel
theorem dX3_wordLength_29 : decode cX3_wordLength 29 = .ok (.ifCond .le 7, 3) := by decide +kernel
theorem dX3_wordLength_32 : decode cX3_wordLength 32 = .ok (.iconst 1, 1) := by decide +kernel
theorem dX3_wordLength_33 : decode cX3_wordLength 33 = .ok (.goto 4, 3) := by decide +kernel
theorem dX3_wordLength_36 : decode cX3_wordLength 36 = .ok (.iconst 0, 1) := by decide +kernel
theorem dX3_wordLength_37 : decode cX3_wordLength 37 = .ok (.ireturn, 1) := by decide +kernel
theorem dX3_letter_0 : decode cX3_letter 0 = .ok (.iload_n 1, 1) := by decide +kernel
theorem dX3_letter_1 : decode cX3_letter 1 = .ok (.ifCond .lt 24, 3) := by decide +kernel
theorem dX3_letter_4 : decode cX3_letter 4 = .ok (.iload_n 1, 1) := by decide +kernel
theorem dX3_letter_5 : decode cX3_letter 5 = .ok (.iconst 3, 1) := by decide +kernel
theorem dX3_letter_6 : decode cX3_letter 6 = .ok (.if_icmp .ge 19, 3) := by decide +kernel
theorem dX3_letter_9 : decode cX3_letter 9 = .ok (.aload_n 0, 1) := by decide +kernel
theorem dX3_letter_10 : decode cX3_letter 10 = .ok (.getfield 9, 3) := by decide +kernel
theorem dX3_letter_13 : decode cX3_letter 13 = .ok (.bipush 8, 2) := by decide +kernel
theorem dX3_letter_15 : decode cX3_letter 15 = .ok (.iload_n 1, 1) := by decide +kernel
theorem dX3_letter_16 : decode cX3_letter 16 = .ok (.imul, 1) := by decide +kernel
theorem dX3_letter_17 : decode cX3_letter 17 = .ok (.ishr, 1) := by decide +kernel
theorem dX3_letter_18 : decode cX3_letter 18 = .ok (.sipush 255, 3) := by decide +kernel
theorem dX3_letter_21 : decode cX3_letter 21 = .ok (.iand, 1) := by decide +kernel
theorem dX3_letter_22 : decode cX3_letter 22 = .ok (.goto 4, 3) := by decide +kernel
theorem dX3_letter_25 : decode cX3_letter 25 = .ok (.iconst 0, 1) := by decide +kernel
theorem dX3_letter_26 : decode cX3_letter 26 = .ok (.istore_n 2, 1) := by decide +kernel
theorem dX3_letter_27 : decode cX3_letter 27 = .ok (.iload_n 2, 1) := by decide +kernel
theorem dX3_letter_28 : decode cX3_letter 28 = .ok (.ifCond .ne 8, 3) := by decide +kernel
theorem dX3_letter_31 : decode cX3_letter 31 = .ok (.bipush (-9), 2) := by decide +kernel
theorem dX3_letter_33 : decode cX3_letter 33 = .ok (.goto 4, 3) := by decide +kernel
theorem dX3_letter_36 : decode cX3_letter 36 = .ok (.iload_n 2, 1) := by decide +kernel
theorem dX3_letter_37 : decode cX3_letter 37 = .ok (.ireturn, 1) := by decide +kernel
theorem dX3_clashesWith_0 : decode cX3_clashesWith 0 = .ok (.bipush 8, 2) := by decide +kernel
theorem dX3_clashesWith_2 : decode cX3_clashesWith 2 = .ok (.aload_n 0, 1) := by decide +kernel
theorem dX3_clashesWith_3 : decode cX3_clashesWith 3 = .ok (.invokevirtual 31, 3) := by decide +kernel
theorem dX3_clashesWith_6 : decode cX3_clashesWith 6 = .ok (.aload_n 1, 1) := by decide +kernel
theorem dX3_clashesWith_7 : decode cX3_clashesWith 7 = .ok (.invokevirtual 31, 3) := by decide +kernel
theorem dX3_clashesWith_10 : decode cX3_clashesWith 10 = .ok (.invokestatic 35, 3) := by decide +kernel
theorem dX3_clashesWith_13 : decode cX3_clashesWith 13 = .ok (.imul, 1) := by decide +kernel
theorem dX3_clashesWith_14 : decode cX3_clashesWith 14 = .ok (.istore_n 2, 1) := by decide +kernel
theorem dX3_clashesWith_15 : decode cX3_clashesWith 15 = .ok (.aload_n 0, 1) := by decide +kernel
theorem dX3_clashesWith_16 : decode cX3_clashesWith 16 = .ok (.getfield 9, 3) := by decide +kernel
theorem dX3_clashesWith_19 : decode cX3_clashesWith 19 = .ok (.iload_n 2, 1) := by decide +kernel
theorem dX3_clashesWith_20 : decode cX3_clashesWith 20 = .ok (.invokestatic 41, 3) := by decide +kernel
theorem dX3_clashesWith_23 : decode cX3_clashesWith 23 = .ok (.aload_n 1, 1) := by decide +kernel
theorem dX3_clashesWith_24 : decode cX3_clashesWith 24 = .ok (.getfield 9, 3) := by decide +kernel
theorem dX3_clashesWith_27 : decode cX3_clashesWith 27 = .ok (.iload_n 2, 1) := by decide +kernel
theorem dX3_clashesWith_28 : decode cX3_clashesWith 28 = .ok (.invokestatic 41, 3) := by decide +kernel
theorem dX3_clashesWith_31 : decode cX3_clashesWith 31 = .ok (.if_icmp .ne 7, 3) := by decide +kernel
theorem dX3_clashesWith_34 : decode cX3_clashesWith 34 = .ok (.iconst 1, 1) := by decide +kernel
theorem dX3_clashesWith_35 : decode cX3_clashesWith 35 = .ok (.goto 4, 3) := by decide +kernel
theorem dX3_clashesWith_38 : decode cX3_clashesWith 38 = .ok (.iconst 0, 1) := by decide +kernel
theorem dX3_clashesWith_39 : decode cX3_clashesWith 39 = .ok (.ireturn, 1) := by decide +kernel
theorem dX3_accepts_0 : decode cX3_accepts 0 = .ok (.iload_n 1, 1) := by decide +kernel
theorem dX3_accepts_1 : decode cX3_accepts 1 = .ok (.tableswitch 95 0 3 #[31, 36, 54, 78], 31) := by decide +kernel
theorem dX3_accepts_32 : decode cX3_accepts 32 = .ok (.iload_n 2, 1) := by decide +kernel
theorem dX3_accepts_33 : decode cX3_accepts 33 = .ok (.invokestatic 44, 3) := by decide +kernel
theorem dX3_accepts_36 : decode cX3_accepts 36 = .ok (.ireturn, 1) := by decide +kernel
theorem dX3_accepts_37 : decode cX3_accepts 37 = .ok (.iload_n 2, 1) := by decide +kernel
theorem dX3_accepts_38 : decode cX3_accepts 38 = .ok (.ifCond .lt 15, 3) := by decide +kernel
theorem dX3_accepts_41 : decode cX3_accepts 41 = .ok (.iload_n 2, 1) := by decide +kernel
theorem dX3_accepts_42 : decode cX3_accepts 42 = .ok (.aload_n 0, 1) := by decide +kernel
theorem dX3_accepts_43 : decode cX3_accepts 43 = .ok (.getfield 21, 3) := by decide +kernel
theorem dX3_accepts_46 : decode cX3_accepts 46 = .ok (.if_icmp .gt 7, 3) := by decide +kernel
theorem dX3_accepts_49 : decode cX3_accepts 49 = .ok (.iconst 1, 1) := by decide +kernel
theorem dX3_accepts_50 : decode cX3_accepts 50 = .ok (.goto 4, 3) := by decide +kernel
theorem dX3_accepts_53 : decode cX3_accepts 53 = .ok (.iconst 0, 1) := by decide +kernel
theorem dX3_accepts_54 : decode cX3_accepts 54 = .ok (.ireturn, 1) := by decide +kernel
theorem dX3_accepts_55 : decode cX3_accepts 55 = .ok (.iload_n 2, 1) := by decide +kernel
theorem dX3_accepts_56 : decode cX3_accepts 56 = .ok (.iconst 1, 1) := by decide +kernel
theorem dX3_accepts_57 : decode cX3_accepts 57 = .ok (.if_icmp .lt 20, 3) := by decide +kernel
theorem dX3_accepts_60 : decode cX3_accepts 60 = .ok (.iload_n 2, 1) := by decide +kernel
theorem dX3_accepts_61 : decode cX3_accepts 61 = .ok (.iconst 3, 1) := by decide +kernel
theorem dX3_accepts_62 : decode cX3_accepts 62 = .ok (.if_icmp .gt 15, 3) := by decide +kernel
theorem dX3_accepts_65 : decode cX3_accepts 65 = .ok (.iload_n 2, 1) := by decide +kernel
theorem dX3_accepts_66 : decode cX3_accepts 66 = .ok (.aload_n 0, 1) := by decide +kernel
theorem dX3_accepts_67 : decode cX3_accepts 67 = .ok (.getfield 18, 3) := by decide +kernel
theorem dX3_accepts_70 : decode cX3_accepts 70 = .ok (.if_icmp .lt 7, 3) := by decide +kernel
theorem dX3_accepts_73 : decode cX3_accepts 73 = .ok (.iconst 1, 1) := by decide +kernel
theorem dX3_accepts_74 : decode cX3_accepts 74 = .ok (.goto 4, 3) := by decide +kernel
theorem dX3_accepts_77 : decode cX3_accepts 77 = .ok (.iconst 0, 1) := by decide +kernel
theorem dX3_accepts_78 : decode cX3_accepts 78 = .ok (.ireturn, 1) := by decide +kernel
theorem dX3_accepts_79 : decode cX3_accepts 79 = .ok (.iload_n 2, 1) := by decide +kernel
theorem dX3_accepts_80 : decode cX3_accepts 80 = .ok (.ifCond .lt 14, 3) := by decide +kernel
theorem dX3_accepts_83 : decode cX3_accepts 83 = .ok (.iload_n 2, 1) := by decide +kernel
theorem dX3_accepts_84 : decode cX3_accepts 84 = .ok (.sipush 999, 3) := by decide +kernel
theorem dX3_accepts_87 : decode cX3_accepts 87 = .ok (.if_icmp .gt 7, 3) := by decide +kernel
theorem dX3_accepts_90 : decode cX3_accepts 90 = .ok (.iconst 1, 1) := by decide +kernel
theorem dX3_accepts_91 : decode cX3_accepts 91 = .ok (.goto 4, 3) := by decide +kernel
theorem dX3_accepts_94 : decode cX3_accepts 94 = .ok (.iconst 0, 1) := by decide +kernel
theorem dX3_accepts_95 : decode cX3_accepts 95 = .ok (.ireturn, 1) := by decide +kernel
theorem dX3_accepts_96 : decode cX3_accepts 96 = .ok (.iconst 0, 1) := by decide +kernel
theorem dX3_accepts_97 : decode cX3_accepts 97 = .ok (.ireturn, 1) := by decide +kernel
theorem dX3_property_0 : decode cX3_property 0 = .ok (.iload_n 1, 1) := by decide +kernel
theorem dX3_property_1 : decode cX3_property 1 = .ok (.tableswitch 42 0 2 #[27, 32, 37], 27) := by decide +kernel
theorem dX3_property_28 : decode cX3_property 28 = .ok (.aload_n 0, 1) := by decide +kernel
theorem dX3_property_29 : decode cX3_property 29 = .ok (.getfield 15, 3) := by decide +kernel
theorem dX3_property_32 : decode cX3_property 32 = .ok (.ireturn, 1) := by decide +kernel
theorem dX3_property_33 : decode cX3_property 33 = .ok (.aload_n 0, 1) := by decide +kernel
theorem dX3_property_34 : decode cX3_property 34 = .ok (.getfield 18, 3) := by decide +kernel
theorem dX3_property_37 : decode cX3_property 37 = .ok (.ireturn, 1) := by decide +kernel
theorem dX3_property_38 : decode cX3_property 38 = .ok (.aload_n 0, 1) := by decide +kernel
theorem dX3_property_39 : decode cX3_property 39 = .ok (.getfield 21, 3) := by decide +kernel
theorem dX3_property_42 : decode cX3_property 42 = .ok (.ireturn, 1) := by decide +kernel
theorem dX3_property_43 : decode cX3_property 43 = .ok (.aload_n 0, 1) := by decide +kernel
theorem dX3_property_44 : decode cX3_property 44 = .ok (.getfield 24, 3) := by decide +kernel
theorem dX3_property_47 : decode cX3_property 47 = .ok (.ireturn, 1) := by decide +kernel
theorem dX3_exchange_0 : decode cX3_exchange 0 = .ok (.aload_n 0, 1) := by decide +kernel
theorem dX3_exchange_1 : decode cX3_exchange 1 = .ok (.iload_n 1, 1) := by decide +kernel
theorem dX3_exchange_2 : decode cX3_exchange 2 = .ok (.invokevirtual 48, 3) := by decide +kernel
theorem dX3_exchange_5 : decode cX3_exchange 5 = .ok (.istore_n 3, 1) := by decide +kernel
theorem dX3_exchange_6 : decode cX3_exchange 6 = .ok (.iload_n 1, 1) := by decide +kernel
theorem dX3_exchange_7 : decode cX3_exchange 7 = .ok (.tableswitch 49 0 2 #[25, 33, 41], 25) := by decide +kernel
theorem dX3_exchange_32 : decode cX3_exchange 32 = .ok (.aload_n 0, 1) := by decide +kernel
theorem dX3_exchange_33 : decode cX3_exchange 33 = .ok (.iload_n 2, 1) := by decide +kernel
theorem dX3_exchange_34 : decode cX3_exchange 34 = .ok (.putfield 15, 3) := by decide +kernel
theorem dX3_exchange_37 : decode cX3_exchange 37 = .ok (.goto 24, 3) := by decide +kernel
theorem dX3_exchange_40 : decode cX3_exchange 40 = .ok (.aload_n 0, 1) := by decide +kernel
theorem dX3_exchange_41 : decode cX3_exchange 41 = .ok (.iload_n 2, 1) := by decide +kernel
theorem dX3_exchange_42 : decode cX3_exchange 42 = .ok (.putfield 18, 3) := by decide +kernel
theorem dX3_exchange_45 : decode cX3_exchange 45 = .ok (.goto 16, 3) := by decide +kernel
theorem dX3_exchange_48 : decode cX3_exchange 48 = .ok (.aload_n 0, 1) := by decide +kernel
theorem dX3_exchange_49 : decode cX3_exchange 49 = .ok (.iload_n 2, 1) := by decide +kernel
theorem dX3_exchange_50 : decode cX3_exchange 50 = .ok (.putfield 21, 3) := by decide +kernel
theorem dX3_exchange_53 : decode cX3_exchange 53 = .ok (.goto 8, 3) := by decide +kernel
theorem dX3_exchange_56 : decode cX3_exchange 56 = .ok (.aload_n 0, 1) := by decide +kernel
theorem dX3_exchange_57 : decode cX3_exchange 57 = .ok (.iload_n 2, 1) := by decide +kernel
theorem dX3_exchange_58 : decode cX3_exchange 58 = .ok (.putfield 24, 3) := by decide +kernel
theorem dX3_exchange_61 : decode cX3_exchange 61 = .ok (.iload_n 3, 1) := by decide +kernel
theorem dX3_exchange_62 : decode cX3_exchange 62 = .ok (.ireturn, 1) := by decide +kernel
theorem dX4_init_0 : decode cX4_init 0 = .ok (.aload_n 0, 1) := by decide +kernel
theorem dX4_init_1 : decode cX4_init 1 = .ok (.invokespecial 3, 3) := by decide +kernel
theorem dX4_init_4 : decode cX4_init 4 = .ok (.aload_n 0, 1) := by decide +kernel
theorem dX4_init_5 : decode cX4_init 5 = .ok (.sipush 4096, 3) := by decide +kernel
theorem dX4_init_8 : decode cX4_init 8 = .ok (.newarray .long, 2) := by decide +kernel
theorem dX4_init_10 : decode cX4_init 10 = .ok (.putfield 9, 3) := by decide +kernel
theorem dX4_init_13 : decode cX4_init 13 = .ok (.aload_n 0, 1) := by decide +kernel
theorem dX4_init_14 : decode cX4_init 14 = .ok (.bipush (-2), 2) := by decide +kernel
theorem dX4_init_16 : decode cX4_init 16 = .ok (.putfield 15, 3) := by decide +kernel
theorem dX4_init_19 : decode cX4_init 19 = .ok (.return_, 1) := by decide +kernel
theorem dX4_forget_0 : decode cX4_forget 0 = .ok (.aload_n 0, 1) := by decide +kernel
theorem dX4_forget_1 : decode cX4_forget 1 = .ok (.bipush (-2), 2) := by decide +kernel
theorem dX4_forget_3 : decode cX4_forget 3 = .ok (.putfield 15, 3) := by decide +kernel
theorem dX4_forget_6 : decode cX4_forget 6 = .ok (.return_, 1) := by decide +kernel
theorem dX4_learn_0 : decode cX4_learn 0 = .ok (.aload_n 0, 1) := by decide +kernel
theorem dX4_learn_1 : decode cX4_learn 1 = .ok (.getfield 15, 3) := by decide +kernel
theorem dX4_learn_4 : decode cX4_learn 4 = .ok (.iload_n 2, 1) := by decide +kernel
theorem dX4_learn_5 : decode cX4_learn 5 = .ok (.if_icmp .ne 4, 3) := by decide +kernel
theorem dX4_learn_8 : decode cX4_learn 8 = .ok (.return_, 1) := by decide +kernel
theorem dX4_learn_9 : decode cX4_learn 9 = .ok (.aload_n 1, 1) := by decide +kernel
theorem dX4_learn_10 : decode cX4_learn 10 = .ok (.invokevirtual 19, 3) := by decide +kernel
theorem dX4_learn_13 : decode cX4_learn 13 = .ok (.aload_n 0, 1) := by decide +kernel
theorem dX4_learn_14 : decode cX4_learn 14 = .ok (.getfield 9, 3) := by decide +kernel
theorem dX4_learn_17 : decode cX4_learn 17 = .ok (.arraylength, 1) := by decide +kernel
theorem dX4_learn_18 : decode cX4_learn 18 = .ok (.invokestatic 25, 3) := by decide +kernel
theorem dX4_learn_21 : decode cX4_learn 21 = .ok (.iconst 1, 1) := by decide +kernel
theorem dX4_learn_22 : decode cX4_learn 22 = .ok (.isub, 1) := by decide +kernel
theorem dX4_learn_23 : decode cX4_learn 23 = .ok (.istore_n 3, 1) := by decide +kernel
theorem dX4_learn_24 : decode cX4_learn 24 = .ok (.iload_n 3, 1) := by decide +kernel
theorem dX4_learn_25 : decode cX4_learn 25 = .ok (.ifCond .lt 69, 3) := by decide +kernel
theorem dX4_learn_28 : decode cX4_learn 28 = .ok (.iload_n 2, 1) := by decide +kernel
theorem dX4_learn_29 : decode cX4_learn 29 = .ok (.iconst (-1), 1) := by decide +kernel
theorem dX4_learn_30 : decode cX4_learn 30 = .ok (.if_icmp .eq 12, 3) := by decide +kernel
theorem dX4_learn_33 : decode cX4_learn 33 = .ok (.aload_n 1, 1) := by decide +kernel
theorem dX4_learn_34 : decode cX4_learn 34 = .ok (.iload_n 3, 1) := by decide +kernel
theorem dX4_learn_35 : decode cX4_learn 35 = .ok (.invokevirtual 31, 3) := by decide +kernel
theorem dX4_learn_38 : decode cX4_learn 38 = .ok (.iload_n 2, 1) := by decide +kernel
theorem dX4_learn_39 : decode cX4_learn 39 = .ok (.if_icmp .ne 7, 3) := by decide +kernel
theorem dX4_learn_42 : decode cX4_learn 42 = .ok (.iconst 1, 1) := by decide +kernel
theorem dX4_learn_43 : decode cX4_learn 43 = .ok (.goto 4, 3) := by decide +kernel
theorem dX4_learn_46 : decode cX4_learn 46 = .ok (.iconst 0, 1) := by decide +kernel
theorem dX4_learn_47 : decode cX4_learn 47 = .ok (.istore 4, 2) := by decide +kernel
theorem dX4_learn_49 : decode cX4_learn 49 = .ok (.iload 4, 2) := by decide +kernel
theorem dX4_learn_51 : decode cX4_learn 51 = .ok (.ifCond .eq 15, 3) := by decide +kernel
theorem dX4_learn_54 : decode cX4_learn 54 = .ok (.aload_n 1, 1) := by decide +kernel
theorem dX4_learn_55 : decode cX4_learn 55 = .ok (.iload_n 3, 1) := by decide +kernel
theorem dX4_learn_56 : decode cX4_learn 56 = .ok (.invokevirtual 35, 3) := by decide +kernel
theorem dX4_learn_59 : decode cX4_learn 59 = .ok (.ifCond .eq 7, 3) := by decide +kernel
theorem dX4_learn_62 : decode cX4_learn 62 = .ok (.lconst 1, 1) := by decide +kernel
theorem dX4_learn_63 : decode cX4_learn 63 = .ok (.goto 4, 3) := by decide +kernel
theorem dX4_learn_66 : decode cX4_learn 66 = .ok (.lconst 0, 1) := by decide +kernel
theorem dX4_learn_67 : decode cX4_learn 67 = .ok (.lstore 5, 2) := by decide +kernel
theorem dX4_learn_69 : decode cX4_learn 69 = .ok (.aload_n 0, 1) := by decide +kernel
theorem dX4_learn_70 : decode cX4_learn 70 = .ok (.getfield 9, 3) := by decide +kernel
theorem dX4_learn_73 : decode cX4_learn 73 = .ok (.iload_n 3, 1) := by decide +kernel
theorem dX4_learn_74 : decode cX4_learn 74 = .ok (.lload 5, 2) := by decide +kernel
theorem dX4_learn_76 : decode cX4_learn 76 = .ok (.aload_n 0, 1) := by decide +kernel
theorem dX4_learn_77 : decode cX4_learn 77 = .ok (.iload_n 3, 1) := by decide +kernel
theorem dX4_learn_78 : decode cX4_learn 78 = .ok (.aload_n 1, 1) := by decide +kernel
theorem dX4_learn_79 : decode cX4_learn 79 = .ok (.getfield 39, 3) := by decide +kernel
theorem dX4_learn_82 : decode cX4_learn 82 = .ok (.aload_n 1, 1) := by decide +kernel
theorem dX4_learn_83 : decode cX4_learn 83 = .ok (.invokevirtual 42, 3) := by decide +kernel
theorem dX4_learn_86 : decode cX4_learn 86 = .ok (.ladd, 1) := by decide +kernel
theorem dX4_learn_87 : decode cX4_learn 87 = .ok (.lastore, 1) := by decide +kernel
theorem dX4_learn_88 : decode cX4_learn 88 = .ok (.iinc 3 (-1), 3) := by decide +kernel
theorem dX4_learn_91 : decode cX4_learn 91 = .ok (.goto (-67), 3) := by decide +kernel
theorem dX4_learn_94 : decode cX4_learn 94 = .ok (.aload_n 0, 1) := by decide +kernel
theorem dX4_learn_95 : decode cX4_learn 95 = .ok (.iload_n 2, 1) := by decide +kernel
theorem dX4_learn_96 : decode cX4_learn 96 = .ok (.putfield 15, 3) := by decide +kernel
theorem dX4_learn_99 : decode cX4_learn 99 = .ok (.return_, 1) := by decide +kernel
theorem dX4_countFrom_0 : decode cX4_countFrom 0 = .ok (.iload_n 1, 1) := by decide +kernel
theorem dX4_countFrom_1 : decode cX4_countFrom 1 = .ok (.ifCond .lt 21, 3) := by decide +kernel
theorem dX4_countFrom_4 : decode cX4_countFrom 4 = .ok (.iload_n 1, 1) := by decide +kernel
theorem dX4_countFrom_5 : decode cX4_countFrom 5 = .ok (.aload_n 0, 1) := by decide +kernel
theorem dX4_countFrom_6 : decode cX4_countFrom 6 = .ok (.getfield 9, 3) := by decide +kernel
theorem dX4_countFrom_9 : decode cX4_countFrom 9 = .ok (.arraylength, 1) := by decide +kernel
theorem dX4_countFrom_10 : decode cX4_countFrom 10 = .ok (.if_icmp .ge 12, 3) := by decide +kernel
theorem dX4_countFrom_13 : decode cX4_countFrom 13 = .ok (.aload_n 0, 1) := by decide +kernel
theorem dX4_countFrom_14 : decode cX4_countFrom 14 = .ok (.getfield 9, 3) := by decide +kernel
theorem dX4_countFrom_17 : decode cX4_countFrom 17 = .ok (.iload_n 1, 1) := by decide +kernel
theorem dX4_countFrom_18 : decode cX4_countFrom 18 = .ok (.laload, 1) := by decide +kernel
theorem dX4_countFrom_19 : decode cX4_countFrom 19 = .ok (.goto 4, 3) := by decide +kernel
theorem dX4_countFrom_22 : decode cX4_countFrom 22 = .ok (.lconst 0, 1) := by decide +kernel
theorem dX4_countFrom_23 : decode cX4_countFrom 23 = .ok (.lreturn, 1) := by decide +kernel
theorem dX4_countBehind_0 : decode cX4_countBehind 0 = .ok (.aload_n 3, 1) := by decide +kernel
theorem dX4_countBehind_1 : decode cX4_countBehind 1 = .ok (.iload_n 1, 1) := by decide +kernel
theorem dX4_countBehind_2 : decode cX4_countBehind 2 = .ok (.invokevirtual 46, 3) := by decide +kernel
theorem dX4_countBehind_5 : decode cX4_countBehind 5 = .ok (.istore 4, 2) := by decide +kernel
theorem dX4_countBehind_7 : decode cX4_countBehind 7 = .ok (.lconst 0, 1) := by decide +kernel
theorem dX4_countBehind_8 : decode cX4_countBehind 8 = .ok (.lstore 5, 2) := by decide +kernel
theorem dX4_countBehind_10 : decode cX4_countBehind 10 = .ok (.iconst 0, 1) := by decide +kernel
theorem dX4_countBehind_11 : decode cX4_countBehind 11 = .ok (.istore 7, 2) := by decide +kernel
theorem dX4_countBehind_13 : decode cX4_countBehind 13 = .ok (.iload 7, 2) := by decide +kernel
theorem dX4_countBehind_15 : decode cX4_countBehind 15 = .ok (.iload_n 2, 1) := by decide +kernel
theorem dX4_countBehind_16 : decode cX4_countBehind 16 = .ok (.if_icmp .ge 35, 3) := by decide +kernel
theorem dX4_countBehind_19 : decode cX4_countBehind 19 = .ok (.iload 4, 2) := by decide +kernel
theorem dX4_countBehind_21 : decode cX4_countBehind 21 = .ok (.iload 7, 2) := by decide +kernel
theorem dX4_countBehind_23 : decode cX4_countBehind 23 = .ok (.invokestatic 49, 3) := by decide +kernel
theorem dX4_countBehind_26 : decode cX4_countBehind 26 = .ok (.iconst 1, 1) := by decide +kernel
theorem dX4_countBehind_27 : decode cX4_countBehind 27 = .ok (.if_icmp .ne 18, 3) := by decide +kernel
theorem dX4_countBehind_30 : decode cX4_countBehind 30 = .ok (.lload 5, 2) := by decide +kernel
theorem dX4_countBehind_32 : decode cX4_countBehind 32 = .ok (.aload_n 0, 1) := by decide +kernel
theorem dX4_countBehind_33 : decode cX4_countBehind 33 = .ok (.iload_n 1, 1) := by decide +kernel
theorem dX4_countBehind_34 : decode cX4_countBehind 34 = .ok (.iload 7, 2) := by decide +kernel
theorem dX4_countBehind_36 : decode cX4_countBehind 36 = .ok (.invokestatic 52, 3) := by decide +kernel
theorem dX4_countBehind_39 : decode cX4_countBehind 39 = .ok (.invokevirtual 55, 3) := by decide +kernel
theorem dX4_countBehind_42 : decode cX4_countBehind 42 = .ok (.ladd, 1) := by decide +kernel
theorem dX4_countBehind_43 : decode cX4_countBehind 43 = .ok (.lstore 5, 2) := by decide +kernel
theorem dX4_countBehind_45 : decode cX4_countBehind 45 = .ok (.iinc 7 1, 3) := by decide +kernel
theorem dX4_countBehind_48 : decode cX4_countBehind 48 = .ok (.goto (-35), 3) := by decide +kernel
theorem dX4_countBehind_51 : decode cX4_countBehind 51 = .ok (.lload 5, 2) := by decide +kernel
theorem dX4_countBehind_53 : decode cX4_countBehind 53 = .ok (.lreturn, 1) := by decide +kernel
theorem dX4_memberOf_0 : decode cX4_memberOf 0 = .ok (.lload_n 2, 1) := by decide +kernel
theorem dX4_memberOf_1 : decode cX4_memberOf 1 = .ok (.aload_n 0, 1) := by decide +kernel
theorem dX4_memberOf_2 : decode cX4_memberOf 2 = .ok (.iconst 0, 1) := by decide +kernel
theorem dX4_memberOf_3 : decode cX4_memberOf 3 = .ok (.invokevirtual 55, 3) := by decide +kernel
theorem dX4_memberOf_6 : decode cX4_memberOf 6 = .ok (.lcmp, 1) := by decide +kernel
theorem dX4_memberOf_7 : decode cX4_memberOf 7 = .ok (.ifCond .lt 6, 3) := by decide +kernel
theorem dX4_memberOf_10 : decode cX4_memberOf 10 = .ok (.bipush (-9), 2) := by decide +kernel
theorem dX4_memberOf_12 : decode cX4_memberOf 12 = .ok (.ireturn, 1) := by decide +kernel
theorem dX4_memberOf_13 : decode cX4_memberOf 13 = .ok (.lload_n 2, 1) := by decide +kernel
theorem dX4_memberOf_14 : decode cX4_memberOf 14 = .ok (.lstore 5, 2) := by decide +kernel
theorem dX4_memberOf_16 : decode cX4_memberOf 16 = .ok (.iconst 0, 1) := by decide +kernel
theorem dX4_memberOf_17 : decode cX4_memberOf 17 = .ok (.istore 7, 2) := by decide +kernel
theorem dX4_memberOf_19 : decode cX4_memberOf 19 = .ok (.iconst 0, 1) := by decide +kernel
theorem dX4_memberOf_20 : decode cX4_memberOf 20 = .ok (.istore 8, 2) := by decide +kernel
theorem dX4_memberOf_22 : decode cX4_memberOf 22 = .ok (.iload 8, 2) := by decide +kernel
theorem dX4_memberOf_24 : decode cX4_memberOf 24 = .ok (.iload 4, 2) := by decide +kernel
theorem dX4_memberOf_26 : decode cX4_memberOf 26 = .ok (.if_icmp .gt 92, 3) := by decide +kernel
theorem dX4_memberOf_29 : decode cX4_memberOf 29 = .ok (.iload 8, 2) := by decide +kernel
theorem dX4_memberOf_31 : decode cX4_memberOf 31 = .ok (.bipush 18, 2) := by decide +kernel
theorem dX4_memberOf_33 : decode cX4_memberOf 33 = .ok (.if_icmp .ge 85, 3) := by decide +kernel
theorem dX4_memberOf_36 : decode cX4_memberOf 36 = .ok (.aload_n 1, 1) := by decide +kernel
theorem dX4_memberOf_37 : decode cX4_memberOf 37 = .ok (.iload 7, 2) := by decide +kernel
theorem dX4_memberOf_39 : decode cX4_memberOf 39 = .ok (.invokevirtual 35, 3) := by decide +kernel
theorem dX4_memberOf_42 : decode cX4_memberOf 42 = .ok (.ifCond .eq 9, 3) := by decide +kernel
theorem dX4_memberOf_45 : decode cX4_memberOf 45 = .ok (.lload 5, 2) := by decide +kernel
theorem dX4_memberOf_47 : decode cX4_memberOf 47 = .ok (.lconst 1, 1) := by decide +kernel
theorem dX4_memberOf_48 : decode cX4_memberOf 48 = .ok (.lsub, 1) := by decide +kernel
theorem dX4_memberOf_49 : decode cX4_memberOf 49 = .ok (.lstore 5, 2) := by decide +kernel
theorem dX4_memberOf_51 : decode cX4_memberOf 51 = .ok (.lload 5, 2) := by decide +kernel
theorem dX4_memberOf_53 : decode cX4_memberOf 53 = .ok (.lconst 0, 1) := by decide +kernel
theorem dX4_memberOf_54 : decode cX4_memberOf 54 = .ok (.lcmp, 1) := by decide +kernel
theorem dX4_memberOf_55 : decode cX4_memberOf 55 = .ok (.ifCond .ge 8, 3) := by decide +kernel
theorem dX4_memberOf_58 : decode cX4_memberOf 58 = .ok (.bipush (-9), 2) := by decide +kernel
theorem dX4_memberOf_60 : decode cX4_memberOf 60 = .ok (.goto 12, 3) := by decide +kernel
theorem dX4_memberOf_63 : decode cX4_memberOf 63 = .ok (.aload_n 0, 1) := by decide +kernel
theorem dX4_memberOf_64 : decode cX4_memberOf 64 = .ok (.iload 7, 2) := by decide +kernel
theorem dX4_memberOf_66 : decode cX4_memberOf 66 = .ok (.lload 5, 2) := by decide +kernel
theorem dX4_memberOf_68 : decode cX4_memberOf 68 = .ok (.aload_n 1, 1) := by decide +kernel
theorem dX4_memberOf_69 : decode cX4_memberOf 69 = .ok (.invokevirtual 59, 3) := by decide +kernel
theorem dX4_memberOf_72 : decode cX4_memberOf 72 = .ok (.istore 9, 2) := by decide +kernel
theorem dX4_memberOf_74 : decode cX4_memberOf 74 = .ok (.iload 9, 2) := by decide +kernel
theorem dX4_memberOf_76 : decode cX4_memberOf 76 = .ok (.ifCond .lt 10, 3) := by decide +kernel
theorem dX4_memberOf_79 : decode cX4_memberOf 79 = .ok (.iload 8, 2) := by decide +kernel
theorem dX4_memberOf_81 : decode cX4_memberOf 81 = .ok (.iload 4, 2) := by decide +kernel
theorem dX4_memberOf_83 : decode cX4_memberOf 83 = .ok (.if_icmp .ne 6, 3) := by decide +kernel
theorem dX4_memberOf_86 : decode cX4_memberOf 86 = .ok (.iload 9, 2) := by decide +kernel
theorem dX4_memberOf_88 : decode cX4_memberOf 88 = .ok (.ireturn, 1) := by decide +kernel
theorem dX4_memberOf_89 : decode cX4_memberOf 89 = .ok (.lload 5, 2) := by decide +kernel
theorem dX4_memberOf_91 : decode cX4_memberOf 91 = .ok (.aload_n 0, 1) := by decide +kernel
theorem dX4_memberOf_92 : decode cX4_memberOf 92 = .ok (.iload 7, 2) := by decide +kernel
theorem dX4_memberOf_94 : decode cX4_memberOf 94 = .ok (.iload 9, 2) := by decide +kernel
theorem dX4_memberOf_96 : decode cX4_memberOf 96 = .ok (.aload_n 1, 1) := by decide +kernel
theorem dX4_memberOf_97 : decode cX4_memberOf 97 = .ok (.invokevirtual 42, 3) := by decide +kernel
theorem dX4_memberOf_100 : decode cX4_memberOf 100 = .ok (.lsub, 1) := by decide +kernel
theorem dX4_memberOf_101 : decode cX4_memberOf 101 = .ok (.lstore 5, 2) := by decide +kernel
theorem dX4_memberOf_103 : decode cX4_memberOf 103 = .ok (.iload 7, 2) := by decide +kernel
theorem dX4_memberOf_105 : decode cX4_memberOf 105 = .ok (.iload 9, 2) := by decide +kernel
theorem dX4_memberOf_107 : decode cX4_memberOf 107 = .ok (.invokestatic 52, 3) := by decide +kernel
theorem dX4_memberOf_110 : decode cX4_memberOf 110 = .ok (.istore 7, 2) := by decide +kernel
theorem dX4_memberOf_112 : decode cX4_memberOf 112 = .ok (.iinc 8 1, 3) := by decide +kernel
theorem dX4_memberOf_115 : decode cX4_memberOf 115 = .ok (.goto (-93), 3) := by decide +kernel
theorem dX4_memberOf_118 : decode cX4_memberOf 118 = .ok (.bipush (-9), 2) := by decide +kernel
theorem dX4_memberOf_120 : decode cX4_memberOf 120 = .ok (.ireturn, 1) := by decide +kernel
theorem dX4_memberBehind_0 : decode cX4_memberBehind 0 = .ok (.iconst 0, 1) := by decide +kernel
theorem dX4_memberBehind_1 : decode cX4_memberBehind 1 = .ok (.istore 5, 2) := by decide +kernel
theorem dX4_memberBehind_3 : decode cX4_memberBehind 3 = .ok (.iload 5, 2) := by decide +kernel
theorem dX4_memberBehind_5 : decode cX4_memberBehind 5 = .ok (.aload 4, 2) := by decide +kernel
theorem dX4_memberBehind_7 : decode cX4_memberBehind 7 = .ok (.getfield 39, 3) := by decide +kernel
theorem dX4_memberBehind_10 : decode cX4_memberBehind 10 = .ok (.if_icmp .ge 28, 3) := by decide +kernel
theorem dX4_memberBehind_13 : decode cX4_memberBehind 13 = .ok (.lload_n 2, 1) := by decide +kernel
theorem dX4_memberBehind_14 : decode cX4_memberBehind 14 = .ok (.aload_n 0, 1) := by decide +kernel
theorem dX4_memberBehind_15 : decode cX4_memberBehind 15 = .ok (.iload_n 1, 1) := by decide +kernel
theorem dX4_memberBehind_16 : decode cX4_memberBehind 16 = .ok (.iload 5, 2) := by decide +kernel
theorem dX4_memberBehind_18 : decode cX4_memberBehind 18 = .ok (.iconst 1, 1) := by decide +kernel
theorem dX4_memberBehind_19 : decode cX4_memberBehind 19 = .ok (.iadd, 1) := by decide +kernel
theorem dX4_memberBehind_20 : decode cX4_memberBehind 20 = .ok (.aload 4, 2) := by decide +kernel
theorem dX4_memberBehind_22 : decode cX4_memberBehind 22 = .ok (.invokevirtual 42, 3) := by decide +kernel
theorem dX4_memberBehind_25 : decode cX4_memberBehind 25 = .ok (.lcmp, 1) := by decide +kernel
theorem dX4_memberBehind_26 : decode cX4_memberBehind 26 = .ok (.ifCond .ge 6, 3) := by decide +kernel
theorem dX4_memberBehind_29 : decode cX4_memberBehind 29 = .ok (.iload 5, 2) := by decide +kernel
theorem dX4_memberBehind_31 : decode cX4_memberBehind 31 = .ok (.ireturn, 1) := by decide +kernel
theorem dX4_memberBehind_32 : decode cX4_memberBehind 32 = .ok (.iinc 5 1, 3) := by decide +kernel
theorem dX4_memberBehind_35 : decode cX4_memberBehind 35 = .ok (.goto (-32), 3) := by decide +kernel
theorem dX4_memberBehind_38 : decode cX4_memberBehind 38 = .ok (.bipush (-9), 2) := by decide +kernel
theorem dX4_memberBehind_40 : decode cX4_memberBehind 40 = .ok (.ireturn, 1) := by decide +kernel
theorem dX4_numberOf_0 : decode cX4_numberOf 0 = .ok (.lconst 0, 1) := by decide +kernel
theorem dX4_numberOf_1 : decode cX4_numberOf 1 = .ok (.lstore_n 3, 1) := by decide +kernel
theorem dX4_numberOf_2 : decode cX4_numberOf 2 = .ok (.iconst 0, 1) := by decide +kernel
theorem dX4_numberOf_3 : decode cX4_numberOf 3 = .ok (.istore 5, 2) := by decide +kernel
theorem dX4_numberOf_5 : decode cX4_numberOf 5 = .ok (.iconst 0, 1) := by decide +kernel
theorem dX4_numberOf_6 : decode cX4_numberOf 6 = .ok (.istore 6, 2) := by decide +kernel
theorem dX4_numberOf_8 : decode cX4_numberOf 8 = .ok (.iload 6, 2) := by decide +kernel
theorem dX4_numberOf_10 : decode cX4_numberOf 10 = .ok (.aload_n 2, 1) := by decide +kernel
theorem dX4_numberOf_11 : decode cX4_numberOf 11 = .ok (.getfield 63, 3) := by decide +kernel
theorem dX4_numberOf_14 : decode cX4_numberOf 14 = .ok (.if_icmp .ge 51, 3) := by decide +kernel
theorem dX4_numberOf_17 : decode cX4_numberOf 17 = .ok (.aload_n 1, 1) := by decide +kernel
theorem dX4_numberOf_18 : decode cX4_numberOf 18 = .ok (.iload 5, 2) := by decide +kernel
theorem dX4_numberOf_20 : decode cX4_numberOf 20 = .ok (.invokevirtual 35, 3) := by decide +kernel
theorem dX4_numberOf_23 : decode cX4_numberOf 23 = .ok (.ifCond .eq 7, 3) := by decide +kernel
theorem dX4_numberOf_26 : decode cX4_numberOf 26 = .ok (.lload_n 3, 1) := by decide +kernel
theorem dX4_numberOf_27 : decode cX4_numberOf 27 = .ok (.lconst 1, 1) := by decide +kernel
theorem dX4_numberOf_28 : decode cX4_numberOf 28 = .ok (.ladd, 1) := by decide +kernel
theorem dX4_numberOf_29 : decode cX4_numberOf 29 = .ok (.lstore_n 3, 1) := by decide +kernel
theorem dX4_numberOf_30 : decode cX4_numberOf 30 = .ok (.lload_n 3, 1) := by decide +kernel
theorem dX4_numberOf_31 : decode cX4_numberOf 31 = .ok (.aload_n 0, 1) := by decide +kernel
theorem dX4_numberOf_32 : decode cX4_numberOf 32 = .ok (.iload 5, 2) := by decide +kernel
theorem dX4_numberOf_34 : decode cX4_numberOf 34 = .ok (.aload_n 2, 1) := by decide +kernel
theorem dX4_numberOf_35 : decode cX4_numberOf 35 = .ok (.iload 6, 2) := by decide +kernel
theorem dX4_numberOf_37 : decode cX4_numberOf 37 = .ok (.invokevirtual 66, 3) := by decide +kernel
theorem dX4_numberOf_40 : decode cX4_numberOf 40 = .ok (.aload_n 1, 1) := by decide +kernel
theorem dX4_numberOf_41 : decode cX4_numberOf 41 = .ok (.invokevirtual 42, 3) := by decide +kernel
theorem dX4_numberOf_44 : decode cX4_numberOf 44 = .ok (.ladd, 1) := by decide +kernel
theorem dX4_numberOf_45 : decode cX4_numberOf 45 = .ok (.lstore_n 3, 1) := by decide +kernel
theorem dX4_numberOf_46 : decode cX4_numberOf 46 = .ok (.iload 5, 2) := by decide +kernel
theorem dX4_numberOf_48 : decode cX4_numberOf 48 = .ok (.aload_n 2, 1) := by decide +kernel
theorem dX4_numberOf_49 : decode cX4_numberOf 49 = .ok (.iload 6, 2) := by decide +kernel
theorem dX4_numberOf_51 : decode cX4_numberOf 51 = .ok (.invokevirtual 66, 3) := by decide +kernel
theorem dX4_numberOf_54 : decode cX4_numberOf 54 = .ok (.invokestatic 52, 3) := by decide +kernel
theorem dX4_numberOf_57 : decode cX4_numberOf 57 = .ok (.istore 5, 2) := by decide +kernel
theorem dX4_numberOf_59 : decode cX4_numberOf 59 = .ok (.iinc 6 1, 3) := by decide +kernel
theorem dX4_numberOf_62 : decode cX4_numberOf 62 = .ok (.goto (-54), 3) := by decide +kernel
theorem dX4_numberOf_65 : decode cX4_numberOf 65 = .ok (.lload_n 3, 1) := by decide +kernel
theorem dX4_numberOf_66 : decode cX4_numberOf 66 = .ok (.lreturn, 1) := by decide +kernel
theorem dX5_init_0 : decode cX5_init 0 = .ok (.aload_n 0, 1) := by decide +kernel
theorem dX5_init_1 : decode cX5_init 1 = .ok (.invokespecial 3, 3) := by decide +kernel
theorem dX5_init_4 : decode cX5_init 4 = .ok (.aload_n 0, 1) := by decide +kernel
theorem dX5_init_5 : decode cX5_init 5 = .ok (.sipush 4096, 3) := by decide +kernel
theorem dX5_init_8 : decode cX5_init 8 = .ok (.newarray .int, 2) := by decide +kernel
theorem dX5_init_10 : decode cX5_init 10 = .ok (.putfield 9, 3) := by decide +kernel
theorem dX5_init_13 : decode cX5_init 13 = .ok (.aload_n 0, 1) := by decide +kernel
theorem dX5_init_14 : decode cX5_init 14 = .ok (.sipush 4096, 3) := by decide +kernel
theorem dX5_init_17 : decode cX5_init 17 = .ok (.newarray .int, 2) := by decide +kernel
theorem dX5_init_19 : decode cX5_init 19 = .ok (.putfield 15, 3) := by decide +kernel
theorem dX5_init_22 : decode cX5_init 22 = .ok (.aload_n 0, 1) := by decide +kernel
theorem dX5_init_23 : decode cX5_init 23 = .ok (.sipush 4096, 3) := by decide +kernel
theorem dX5_init_26 : decode cX5_init 26 = .ok (.newarray .long, 2) := by decide +kernel
theorem dX5_init_28 : decode cX5_init 28 = .ok (.putfield 18, 3) := by decide +kernel
theorem dX5_init_31 : decode cX5_init 31 = .ok (.aload_n 0, 1) := by decide +kernel
theorem dX5_init_32 : decode cX5_init 32 = .ok (.bipush 18, 2) := by decide +kernel
theorem dX5_init_34 : decode cX5_init 34 = .ok (.newarray .int, 2) := by decide +kernel
theorem dX5_init_36 : decode cX5_init 36 = .ok (.putfield 22, 3) := by decide +kernel
theorem dX5_init_39 : decode cX5_init 39 = .ok (.aload_n 0, 1) := by decide +kernel
theorem dX5_init_40 : decode cX5_init 40 = .ok (.bipush 18, 2) := by decide +kernel
theorem dX5_init_42 : decode cX5_init 42 = .ok (.newarray .int, 2) := by decide +kernel
theorem dX5_init_44 : decode cX5_init 44 = .ok (.putfield 25, 3) := by decide +kernel
theorem dX5_init_47 : decode cX5_init 47 = .ok (.aload_n 0, 1) := by decide +kernel
theorem dX5_init_48 : decode cX5_init 48 = .ok (.bipush 18, 2) := by decide +kernel
theorem dX5_init_50 : decode cX5_init 50 = .ok (.newarray .int, 2) := by decide +kernel
theorem dX5_init_52 : decode cX5_init 52 = .ok (.putfield 28, 3) := by decide +kernel
theorem dX5_init_55 : decode cX5_init 55 = .ok (.return_, 1) := by decide +kernel
theorem dX5_forget_0 : decode cX5_forget 0 = .ok (.aload_n 0, 1) := by decide +kernel
theorem dX5_forget_1 : decode cX5_forget 1 = .ok (.iconst 0, 1) := by decide +kernel
theorem dX5_forget_2 : decode cX5_forget 2 = .ok (.putfield 31, 3) := by decide +kernel
theorem dX5_forget_5 : decode cX5_forget 5 = .ok (.return_, 1) := by decide +kernel
theorem dX5_learn_0 : decode cX5_learn 0 = .ok (.aload_n 0, 1) := by decide +kernel
theorem dX5_learn_1 : decode cX5_learn 1 = .ok (.getfield 31, 3) := by decide +kernel
theorem dX5_learn_4 : decode cX5_learn 4 = .ok (.ifCond .eq 4, 3) := by decide +kernel
theorem dX5_learn_7 : decode cX5_learn 7 = .ok (.return_, 1) := by decide +kernel
theorem dX5_learn_8 : decode cX5_learn 8 = .ok (.aload_n 0, 1) := by decide +kernel
theorem dX5_learn_9 : decode cX5_learn 9 = .ok (.aload_n 1, 1) := by decide +kernel
theorem dX5_learn_10 : decode cX5_learn 10 = .ok (.aload_n 2, 1) := by decide +kernel
theorem dX5_learn_11 : decode cX5_learn 11 = .ok (.invokevirtual 35, 3) := by decide +kernel
theorem dX5_learn_14 : decode cX5_learn 14 = .ok (.aload_n 0, 1) := by decide +kernel
theorem dX5_learn_15 : decode cX5_learn 15 = .ok (.aload_n 1, 1) := by decide +kernel
theorem dX5_learn_16 : decode cX5_learn 16 = .ok (.aload_n 2, 1) := by decide +kernel
theorem dX5_learn_17 : decode cX5_learn 17 = .ok (.invokevirtual 39, 3) := by decide +kernel
theorem dX5_learn_20 : decode cX5_learn 20 = .ok (.aload_n 0, 1) := by decide +kernel
theorem dX5_learn_21 : decode cX5_learn 21 = .ok (.aload_n 1, 1) := by decide +kernel
theorem dX5_learn_22 : decode cX5_learn 22 = .ok (.aload_n 2, 1) := by decide +kernel
theorem dX5_learn_23 : decode cX5_learn 23 = .ok (.invokevirtual 42, 3) := by decide +kernel
theorem dX5_learn_26 : decode cX5_learn 26 = .ok (.aload_n 0, 1) := by decide +kernel
theorem dX5_learn_27 : decode cX5_learn 27 = .ok (.iconst 1, 1) := by decide +kernel
theorem dX5_learn_28 : decode cX5_learn 28 = .ok (.putfield 31, 3) := by decide +kernel
theorem dX5_learn_31 : decode cX5_learn 31 = .ok (.return_, 1) := by decide +kernel
theorem dX5_exists_0 : decode cX5_exists 0 = .ok (.aload_n 0, 1) := by decide +kernel
theorem dX5_exists_1 : decode cX5_exists 1 = .ok (.iconst 0, 1) := by decide +kernel
theorem dX5_exists_2 : decode cX5_exists 2 = .ok (.invokevirtual 45, 3) := by decide +kernel
theorem dX5_exists_5 : decode cX5_exists 5 = .ok (.lconst 0, 1) := by decide +kernel
theorem dX5_exists_6 : decode cX5_exists 6 = .ok (.lcmp, 1) := by decide +kernel
theorem dX5_exists_7 : decode cX5_exists 7 = .ok (.ifCond .le 7, 3) := by decide +kernel
theorem dX5_exists_10 : decode cX5_exists 10 = .ok (.iconst 1, 1) := by decide +kernel
theorem dX5_exists_11 : decode cX5_exists 11 = .ok (.goto 4, 3) := by decide +kernel
theorem dX5_exists_14 : decode cX5_exists 14 = .ok (.iconst 0, 1) := by decide +kernel
theorem dX5_exists_15 : decode cX5_exists 15 = .ok (.ireturn, 1) := by decide +kernel
theorem dX5_endOf_0 : decode cX5_endOf 0 = .ok (.iload_n 1, 1) := by decide +kernel
theorem dX5_endOf_1 : decode cX5_endOf 1 = .ok (.ifCond .lt 21, 3) := by decide +kernel
theorem dX5_endOf_4 : decode cX5_endOf 4 = .ok (.iload_n 1, 1) := by decide +kernel
theorem dX5_endOf_5 : decode cX5_endOf 5 = .ok (.aload_n 0, 1) := by decide +kernel
theorem dX5_endOf_6 : decode cX5_endOf 6 = .ok (.getfield 9, 3) := by decide +kernel
theorem dX5_endOf_9 : decode cX5_endOf 9 = .ok (.arraylength, 1) := by decide +kernel
theorem dX5_endOf_10 : decode cX5_endOf 10 = .ok (.if_icmp .ge 12, 3) := by decide +kernel
theorem dX5_endOf_13 : decode cX5_endOf 13 = .ok (.aload_n 0, 1) := by decide +kernel
theorem dX5_endOf_14 : decode cX5_endOf 14 = .ok (.getfield 9, 3) := by decide +kernel
theorem dX5_endOf_17 : decode cX5_endOf 17 = .ok (.iload_n 1, 1) := by decide +kernel
theorem dX5_endOf_18 : decode cX5_endOf 18 = .ok (.iaload, 1) := by decide +kernel
theorem dX5_endOf_19 : decode cX5_endOf 19 = .ok (.goto 5, 3) := by decide +kernel
theorem dX5_endOf_22 : decode cX5_endOf 22 = .ok (.bipush (-9), 2) := by decide +kernel
theorem dX5_endOf_24 : decode cX5_endOf 24 = .ok (.ireturn, 1) := by decide +kernel
theorem dX5_stepsFrom_0 : decode cX5_stepsFrom 0 = .ok (.iload_n 1, 1) := by decide +kernel
theorem dX5_stepsFrom_1 : decode cX5_stepsFrom 1 = .ok (.ifCond .lt 21, 3) := by decide +kernel
theorem dX5_stepsFrom_4 : decode cX5_stepsFrom 4 = .ok (.iload_n 1, 1) := by decide +kernel
theorem dX5_stepsFrom_5 : decode cX5_stepsFrom 5 = .ok (.aload_n 0, 1) := by decide +kernel
theorem dX5_stepsFrom_6 : decode cX5_stepsFrom 6 = .ok (.getfield 15, 3) := by decide +kernel
theorem dX5_stepsFrom_9 : decode cX5_stepsFrom 9 = .ok (.arraylength, 1) := by decide +kernel
theorem dX5_stepsFrom_10 : decode cX5_stepsFrom 10 = .ok (.if_icmp .ge 12, 3) := by decide +kernel
theorem dX5_stepsFrom_13 : decode cX5_stepsFrom 13 = .ok (.aload_n 0, 1) := by decide +kernel
theorem dX5_stepsFrom_14 : decode cX5_stepsFrom 14 = .ok (.getfield 15, 3) := by decide +kernel
theorem dX5_stepsFrom_17 : decode cX5_stepsFrom 17 = .ok (.iload_n 1, 1) := by decide +kernel
theorem dX5_stepsFrom_18 : decode cX5_stepsFrom 18 = .ok (.iaload, 1) := by decide +kernel
theorem dX5_stepsFrom_19 : decode cX5_stepsFrom 19 = .ok (.goto 4, 3) := by decide +kernel
theorem dX5_stepsFrom_22 : decode cX5_stepsFrom 22 = .ok (.iconst 0, 1) := by decide +kernel
theorem dX5_stepsFrom_23 : decode cX5_stepsFrom 23 = .ok (.ireturn, 1) := by decide +kernel
theorem dX5_waysFrom_0 : decode cX5_waysFrom 0 = .ok (.iload_n 1, 1) := by decide +kernel
theorem dX5_waysFrom_1 : decode cX5_waysFrom 1 = .ok (.ifCond .lt 21, 3) := by decide +kernel
theorem dX5_waysFrom_4 : decode cX5_waysFrom 4 = .ok (.iload_n 1, 1) := by decide +kernel
theorem dX5_waysFrom_5 : decode cX5_waysFrom 5 = .ok (.aload_n 0, 1) := by decide +kernel
theorem dX5_waysFrom_6 : decode cX5_waysFrom 6 = .ok (.getfield 18, 3) := by decide +kernel
theorem dX5_waysFrom_9 : decode cX5_waysFrom 9 = .ok (.arraylength, 1) := by decide +kernel
theorem dX5_waysFrom_10 : decode cX5_waysFrom 10 = .ok (.if_icmp .ge 12, 3) := by decide +kernel
theorem dX5_waysFrom_13 : decode cX5_waysFrom 13 = .ok (.aload_n 0, 1) := by decide +kernel
theorem dX5_waysFrom_14 : decode cX5_waysFrom 14 = .ok (.getfield 18, 3) := by decide +kernel
theorem dX5_waysFrom_17 : decode cX5_waysFrom 17 = .ok (.iload_n 1, 1) := by decide +kernel
theorem dX5_waysFrom_18 : decode cX5_waysFrom 18 = .ok (.laload, 1) := by decide +kernel
theorem dX5_waysFrom_19 : decode cX5_waysFrom 19 = .ok (.goto 4, 3) := by decide +kernel
theorem dX5_waysFrom_22 : decode cX5_waysFrom 22 = .ok (.lconst 0, 1) := by decide +kernel
theorem dX5_waysFrom_23 : decode cX5_waysFrom 23 = .ok (.lreturn, 1) := by decide +kernel
theorem dX5_memberAt_0 : decode cX5_memberAt 0 = .ok (.iload_n 1, 1) := by decide +kernel
theorem dX5_memberAt_1 : decode cX5_memberAt 1 = .ok (.ifCond .lt 29, 3) := by decide +kernel
theorem dX5_memberAt_4 : decode cX5_memberAt 4 = .ok (.iload_n 1, 1) := by decide +kernel
theorem dX5_memberAt_5 : decode cX5_memberAt 5 = .ok (.aload_n 0, 1) := by decide +kernel
theorem dX5_memberAt_6 : decode cX5_memberAt 6 = .ok (.getfield 49, 3) := by decide +kernel
theorem dX5_memberAt_9 : decode cX5_memberAt 9 = .ok (.if_icmp .ge 21, 3) := by decide +kernel
theorem dX5_memberAt_12 : decode cX5_memberAt 12 = .ok (.iload_n 1, 1) := by decide +kernel
theorem dX5_memberAt_13 : decode cX5_memberAt 13 = .ok (.aload_n 0, 1) := by decide +kernel
theorem dX5_memberAt_14 : decode cX5_memberAt 14 = .ok (.getfield 22, 3) := by decide +kernel
theorem dX5_memberAt_17 : decode cX5_memberAt 17 = .ok (.arraylength, 1) := by decide +kernel
theorem dX5_memberAt_18 : decode cX5_memberAt 18 = .ok (.if_icmp .ge 12, 3) := by decide +kernel
theorem dX5_memberAt_21 : decode cX5_memberAt 21 = .ok (.aload_n 0, 1) := by decide +kernel
theorem dX5_memberAt_22 : decode cX5_memberAt 22 = .ok (.getfield 22, 3) := by decide +kernel
theorem dX5_memberAt_25 : decode cX5_memberAt 25 = .ok (.iload_n 1, 1) := by decide +kernel
theorem dX5_memberAt_26 : decode cX5_memberAt 26 = .ok (.iaload, 1) := by decide +kernel
theorem dX5_memberAt_27 : decode cX5_memberAt 27 = .ok (.goto 5, 3) := by decide +kernel
theorem dX5_memberAt_30 : decode cX5_memberAt 30 = .ok (.bipush (-9), 2) := by decide +kernel
theorem dX5_memberAt_32 : decode cX5_memberAt 32 = .ok (.ireturn, 1) := by decide +kernel
theorem dX5_startAt_0 : decode cX5_startAt 0 = .ok (.iload_n 1, 1) := by decide +kernel
theorem dX5_startAt_1 : decode cX5_startAt 1 = .ok (.ifCond .lt 29, 3) := by decide +kernel
theorem dX5_startAt_4 : decode cX5_startAt 4 = .ok (.iload_n 1, 1) := by decide +kernel
theorem dX5_startAt_5 : decode cX5_startAt 5 = .ok (.aload_n 0, 1) := by decide +kernel
theorem dX5_startAt_6 : decode cX5_startAt 6 = .ok (.getfield 49, 3) := by decide +kernel
theorem dX5_startAt_9 : decode cX5_startAt 9 = .ok (.if_icmp .ge 21, 3) := by decide +kernel
theorem dX5_startAt_12 : decode cX5_startAt 12 = .ok (.iload_n 1, 1) := by decide +kernel
theorem dX5_startAt_13 : decode cX5_startAt 13 = .ok (.aload_n 0, 1) := by decide +kernel
theorem dX5_startAt_14 : decode cX5_startAt 14 = .ok (.getfield 25, 3) := by decide +kernel
theorem dX5_startAt_17 : decode cX5_startAt 17 = .ok (.arraylength, 1) := by decide +kernel
theorem dX5_startAt_18 : decode cX5_startAt 18 = .ok (.if_icmp .ge 12, 3) := by decide +kernel
theorem dX5_startAt_21 : decode cX5_startAt 21 = .ok (.aload_n 0, 1) := by decide +kernel
theorem dX5_startAt_22 : decode cX5_startAt 22 = .ok (.getfield 25, 3) := by decide +kernel
theorem dX5_startAt_25 : decode cX5_startAt 25 = .ok (.iload_n 1, 1) := by decide +kernel
theorem dX5_startAt_26 : decode cX5_startAt 26 = .ok (.iaload, 1) := by decide +kernel
theorem dX5_startAt_27 : decode cX5_startAt 27 = .ok (.goto 5, 3) := by decide +kernel
theorem dX5_startAt_30 : decode cX5_startAt 30 = .ok (.bipush (-9), 2) := by decide +kernel
theorem dX5_startAt_32 : decode cX5_startAt 32 = .ok (.ireturn, 1) := by decide +kernel
theorem dX5_numberAt_0 : decode cX5_numberAt 0 = .ok (.iload_n 1, 1) := by decide +kernel
theorem dX5_numberAt_1 : decode cX5_numberAt 1 = .ok (.ifCond .lt 29, 3) := by decide +kernel
theorem dX5_numberAt_4 : decode cX5_numberAt 4 = .ok (.iload_n 1, 1) := by decide +kernel
theorem dX5_numberAt_5 : decode cX5_numberAt 5 = .ok (.aload_n 0, 1) := by decide +kernel
theorem dX5_numberAt_6 : decode cX5_numberAt 6 = .ok (.getfield 49, 3) := by decide +kernel
theorem dX5_numberAt_9 : decode cX5_numberAt 9 = .ok (.if_icmp .ge 21, 3) := by decide +kernel
theorem dX5_numberAt_12 : decode cX5_numberAt 12 = .ok (.iload_n 1, 1) := by decide +kernel
theorem dX5_numberAt_13 : decode cX5_numberAt 13 = .ok (.aload_n 0, 1) := by decide +kernel
theorem dX5_numberAt_14 : decode cX5_numberAt 14 = .ok (.getfield 28, 3) := by decide +kernel
theorem dX5_numberAt_17 : decode cX5_numberAt 17 = .ok (.arraylength, 1) := by decide +kernel
theorem dX5_numberAt_18 : decode cX5_numberAt 18 = .ok (.if_icmp .ge 12, 3) := by decide +kernel
theorem dX5_numberAt_21 : decode cX5_numberAt 21 = .ok (.aload_n 0, 1) := by decide +kernel
theorem dX5_numberAt_22 : decode cX5_numberAt 22 = .ok (.getfield 28, 3) := by decide +kernel
theorem dX5_numberAt_25 : decode cX5_numberAt 25 = .ok (.iload_n 1, 1) := by decide +kernel
theorem dX5_numberAt_26 : decode cX5_numberAt 26 = .ok (.iaload, 1) := by decide +kernel
theorem dX5_numberAt_27 : decode cX5_numberAt 27 = .ok (.goto 5, 3) := by decide +kernel
theorem dX5_numberAt_30 : decode cX5_numberAt 30 = .ok (.bipush (-9), 2) := by decide +kernel
theorem dX5_numberAt_32 : decode cX5_numberAt 32 = .ok (.ireturn, 1) := by decide +kernel
theorem dX5_findEnds_0 : decode cX5_findEnds 0 = .ok (.aload_n 1, 1) := by decide +kernel
theorem dX5_findEnds_1 : decode cX5_findEnds 1 = .ok (.invokevirtual 53, 3) := by decide +kernel
theorem dX5_findEnds_4 : decode cX5_findEnds 4 = .ok (.istore_n 3, 1) := by decide +kernel
theorem dX5_findEnds_5 : decode cX5_findEnds 5 = .ok (.iconst 0, 1) := by decide +kernel
theorem dX5_findEnds_6 : decode cX5_findEnds 6 = .ok (.istore 4, 2) := by decide +kernel
theorem dX5_findEnds_8 : decode cX5_findEnds 8 = .ok (.iload 4, 2) := by decide +kernel
theorem dX5_findEnds_10 : decode cX5_findEnds 10 = .ok (.iload_n 3, 1) := by decide +kernel
theorem dX5_findEnds_11 : decode cX5_findEnds 11 = .ok (.if_icmp .ge 37, 3) := by decide +kernel
theorem dX5_findEnds_14 : decode cX5_findEnds 14 = .ok (.iload 4, 2) := by decide +kernel
theorem dX5_findEnds_16 : decode cX5_findEnds 16 = .ok (.aload_n 0, 1) := by decide +kernel
theorem dX5_findEnds_17 : decode cX5_findEnds 17 = .ok (.getfield 9, 3) := by decide +kernel
theorem dX5_findEnds_20 : decode cX5_findEnds 20 = .ok (.arraylength, 1) := by decide +kernel
theorem dX5_findEnds_21 : decode cX5_findEnds 21 = .ok (.if_icmp .ge 27, 3) := by decide +kernel
theorem dX5_findEnds_24 : decode cX5_findEnds 24 = .ok (.aload_n 0, 1) := by decide +kernel
theorem dX5_findEnds_25 : decode cX5_findEnds 25 = .ok (.getfield 9, 3) := by decide +kernel
theorem dX5_findEnds_28 : decode cX5_findEnds 28 = .ok (.iload 4, 2) := by decide +kernel
theorem dX5_findEnds_30 : decode cX5_findEnds 30 = .ok (.iload 4, 2) := by decide +kernel
theorem dX5_findEnds_32 : decode cX5_findEnds 32 = .ok (.ifCond .ne 7, 3) := by decide +kernel
theorem dX5_findEnds_35 : decode cX5_findEnds 35 = .ok (.iconst 0, 1) := by decide +kernel
theorem dX5_findEnds_36 : decode cX5_findEnds 36 = .ok (.goto 5, 3) := by decide +kernel
theorem dX5_findEnds_39 : decode cX5_findEnds 39 = .ok (.bipush (-9), 2) := by decide +kernel
theorem dX5_findEnds_41 : decode cX5_findEnds 41 = .ok (.iastore, 1) := by decide +kernel
theorem dX5_findEnds_42 : decode cX5_findEnds 42 = .ok (.iinc 4 1, 3) := by decide +kernel
theorem dX5_findEnds_45 : decode cX5_findEnds 45 = .ok (.goto (-37), 3) := by decide +kernel
theorem dX5_findEnds_48 : decode cX5_findEnds 48 = .ok (.iconst 0, 1) := by decide +kernel
theorem dX5_findEnds_49 : decode cX5_findEnds 49 = .ok (.istore 4, 2) := by decide +kernel
theorem dX5_findEnds_51 : decode cX5_findEnds 51 = .ok (.iload 4, 2) := by decide +kernel
theorem dX5_findEnds_53 : decode cX5_findEnds 53 = .ok (.iload_n 3, 1) := by decide +kernel
theorem dX5_findEnds_54 : decode cX5_findEnds 54 = .ok (.if_icmp .ge 51, 3) := by decide +kernel
theorem dX5_findEnds_57 : decode cX5_findEnds 57 = .ok (.iload 4, 2) := by decide +kernel
theorem dX5_findEnds_59 : decode cX5_findEnds 59 = .ok (.aload_n 0, 1) := by decide +kernel
theorem dX5_findEnds_60 : decode cX5_findEnds 60 = .ok (.getfield 15, 3) := by decide +kernel
theorem dX5_findEnds_63 : decode cX5_findEnds 63 = .ok (.arraylength, 1) := by decide +kernel
theorem dX5_findEnds_64 : decode cX5_findEnds 64 = .ok (.if_icmp .ge 41, 3) := by decide +kernel
theorem dX5_findEnds_67 : decode cX5_findEnds 67 = .ok (.aload_n 0, 1) := by decide +kernel
theorem dX5_findEnds_68 : decode cX5_findEnds 68 = .ok (.getfield 15, 3) := by decide +kernel
theorem dX5_findEnds_71 : decode cX5_findEnds 71 = .ok (.iload 4, 2) := by decide +kernel
theorem dX5_findEnds_73 : decode cX5_findEnds 73 = .ok (.iconst 0, 1) := by decide +kernel
theorem dX5_findEnds_74 : decode cX5_findEnds 74 = .ok (.iastore, 1) := by decide +kernel
theorem dX5_findEnds_75 : decode cX5_findEnds 75 = .ok (.aload_n 0, 1) := by decide +kernel
theorem dX5_findEnds_76 : decode cX5_findEnds 76 = .ok (.iload 4, 2) := by decide +kernel
theorem dX5_findEnds_78 : decode cX5_findEnds 78 = .ok (.invokevirtual 59, 3) := by decide +kernel
theorem dX5_findEnds_81 : decode cX5_findEnds 81 = .ok (.ifCond .lt 18, 3) := by decide +kernel
theorem dX5_findEnds_84 : decode cX5_findEnds 84 = .ok (.aload_n 0, 1) := by decide +kernel
theorem dX5_findEnds_85 : decode cX5_findEnds 85 = .ok (.getfield 15, 3) := by decide +kernel
theorem dX5_findEnds_88 : decode cX5_findEnds 88 = .ok (.iload 4, 2) := by decide +kernel
theorem dX5_findEnds_90 : decode cX5_findEnds 90 = .ok (.aload_n 0, 1) := by decide +kernel
theorem dX5_findEnds_91 : decode cX5_findEnds 91 = .ok (.iload 4, 2) := by decide +kernel
theorem dX5_findEnds_93 : decode cX5_findEnds 93 = .ok (.aload_n 1, 1) := by decide +kernel
theorem dX5_findEnds_94 : decode cX5_findEnds 94 = .ok (.aload_n 2, 1) := by decide +kernel
theorem dX5_findEnds_95 : decode cX5_findEnds 95 = .ok (.invokevirtual 63, 3) := by decide +kernel
theorem dX5_findEnds_98 : decode cX5_findEnds 98 = .ok (.iastore, 1) := by decide +kernel
theorem dX5_findEnds_99 : decode cX5_findEnds 99 = .ok (.iinc 4 1, 3) := by decide +kernel
theorem dX5_findEnds_102 : decode cX5_findEnds 102 = .ok (.goto (-51), 3) := by decide +kernel
theorem dX5_findEnds_105 : decode cX5_findEnds 105 = .ok (.return_, 1) := by decide +kernel
theorem dX5_findSteps_0 : decode cX5_findSteps 0 = .ok (.aload_n 0, 1) := by decide +kernel
theorem dX5_findSteps_1 : decode cX5_findSteps 1 = .ok (.iload_n 1, 1) := by decide +kernel
theorem dX5_findSteps_2 : decode cX5_findSteps 2 = .ok (.aload_n 2, 1) := by decide +kernel
theorem dX5_findSteps_3 : decode cX5_findSteps 3 = .ok (.aload_n 3, 1) := by decide +kernel
theorem dX5_findSteps_4 : decode cX5_findSteps 4 = .ok (.invokevirtual 67, 3) := by decide +kernel
theorem dX5_findSteps_7 : decode cX5_findSteps 7 = .ok (.istore 4, 2) := by decide +kernel
theorem dX5_findSteps_9 : decode cX5_findSteps 9 = .ok (.iload 4, 2) := by decide +kernel
theorem dX5_findSteps_11 : decode cX5_findSteps 11 = .ok (.ifCond .lt 11, 3) := by decide +kernel
theorem dX5_findSteps_14 : decode cX5_findSteps 14 = .ok (.aload_n 2, 1) := by decide +kernel
theorem dX5_findSteps_15 : decode cX5_findSteps 15 = .ok (.iload_n 1, 1) := by decide +kernel
theorem dX5_findSteps_16 : decode cX5_findSteps 16 = .ok (.invokevirtual 70, 3) := by decide +kernel
theorem dX5_findSteps_19 : decode cX5_findSteps 19 = .ok (.goto 4, 3) := by decide +kernel
theorem dX5_findSteps_22 : decode cX5_findSteps 22 = .ok (.iconst 0, 1) := by decide +kernel
theorem dX5_findSteps_23 : decode cX5_findSteps 23 = .ok (.istore 5, 2) := by decide +kernel
theorem dX5_findSteps_25 : decode cX5_findSteps 25 = .ok (.iconst 0, 1) := by decide +kernel
theorem dX5_findSteps_26 : decode cX5_findSteps 26 = .ok (.istore 6, 2) := by decide +kernel
theorem dX5_findSteps_28 : decode cX5_findSteps 28 = .ok (.iconst 0, 1) := by decide +kernel
theorem dX5_findSteps_29 : decode cX5_findSteps 29 = .ok (.istore 7, 2) := by decide +kernel
theorem dX5_findSteps_31 : decode cX5_findSteps 31 = .ok (.iload 7, 2) := by decide +kernel
theorem dX5_findSteps_33 : decode cX5_findSteps 33 = .ok (.aload_n 2, 1) := by decide +kernel
theorem dX5_findSteps_34 : decode cX5_findSteps 34 = .ok (.getfield 73, 3) := by decide +kernel
theorem dX5_findSteps_37 : decode cX5_findSteps 37 = .ok (.if_icmp .ge 85, 3) := by decide +kernel
theorem dX5_findSteps_40 : decode cX5_findSteps 40 = .ok (.iload 5, 2) := by decide +kernel
theorem dX5_findSteps_42 : decode cX5_findSteps 42 = .ok (.iload 7, 2) := by decide +kernel
theorem dX5_findSteps_44 : decode cX5_findSteps 44 = .ok (.invokestatic 74, 3) := by decide +kernel
theorem dX5_findSteps_47 : decode cX5_findSteps 47 = .ok (.iconst 1, 1) := by decide +kernel
theorem dX5_findSteps_48 : decode cX5_findSteps 48 = .ok (.if_icmp .ne 18, 3) := by decide +kernel
theorem dX5_findSteps_51 : decode cX5_findSteps 51 = .ok (.aload_n 3, 1) := by decide +kernel
theorem dX5_findSteps_52 : decode cX5_findSteps 52 = .ok (.aload_n 2, 1) := by decide +kernel
theorem dX5_findSteps_53 : decode cX5_findSteps 53 = .ok (.iload 7, 2) := by decide +kernel
theorem dX5_findSteps_55 : decode cX5_findSteps 55 = .ok (.invokevirtual 78, 3) := by decide +kernel
theorem dX5_findSteps_58 : decode cX5_findSteps 58 = .ok (.iload 4, 2) := by decide +kernel
theorem dX5_findSteps_60 : decode cX5_findSteps 60 = .ok (.invokevirtual 82, 3) := by decide +kernel
theorem dX5_findSteps_63 : decode cX5_findSteps 63 = .ok (.goto 5, 3) := by decide +kernel
theorem dX5_findSteps_66 : decode cX5_findSteps 66 = .ok (.bipush (-9), 2) := by decide +kernel
theorem dX5_findSteps_68 : decode cX5_findSteps 68 = .ok (.istore 8, 2) := by decide +kernel
theorem dX5_findSteps_70 : decode cX5_findSteps 70 = .ok (.iload_n 1, 1) := by decide +kernel
theorem dX5_findSteps_71 : decode cX5_findSteps 71 = .ok (.iload 7, 2) := by decide +kernel
theorem dX5_findSteps_73 : decode cX5_findSteps 73 = .ok (.invokestatic 87, 3) := by decide +kernel
theorem dX5_findSteps_76 : decode cX5_findSteps 76 = .ok (.istore 9, 2) := by decide +kernel
theorem dX5_findSteps_78 : decode cX5_findSteps 78 = .ok (.iload 8, 2) := by decide +kernel
theorem dX5_findSteps_80 : decode cX5_findSteps 80 = .ok (.ifCond .lt 36, 3) := by decide +kernel
theorem dX5_findSteps_83 : decode cX5_findSteps 83 = .ok (.iload 9, 2) := by decide +kernel
theorem dX5_findSteps_85 : decode cX5_findSteps 85 = .ok (.ifCond .lt 31, 3) := by decide +kernel
theorem dX5_findSteps_88 : decode cX5_findSteps 88 = .ok (.iload 9, 2) := by decide +kernel
theorem dX5_findSteps_90 : decode cX5_findSteps 90 = .ok (.aload_n 0, 1) := by decide +kernel
theorem dX5_findSteps_91 : decode cX5_findSteps 91 = .ok (.getfield 9, 3) := by decide +kernel
theorem dX5_findSteps_94 : decode cX5_findSteps 94 = .ok (.arraylength, 1) := by decide +kernel
theorem dX5_findSteps_95 : decode cX5_findSteps 95 = .ok (.if_icmp .ge 21, 3) := by decide +kernel
theorem dX5_findSteps_98 : decode cX5_findSteps 98 = .ok (.aload_n 0, 1) := by decide +kernel
theorem dX5_findSteps_99 : decode cX5_findSteps 99 = .ok (.getfield 9, 3) := by decide +kernel
theorem dX5_findSteps_102 : decode cX5_findSteps 102 = .ok (.iload 9, 2) := by decide +kernel
theorem dX5_findSteps_104 : decode cX5_findSteps 104 = .ok (.iload 8, 2) := by decide +kernel
theorem dX5_findSteps_106 : decode cX5_findSteps 106 = .ok (.iastore, 1) := by decide +kernel
theorem dX5_findSteps_107 : decode cX5_findSteps 107 = .ok (.iload 6, 2) := by decide +kernel
theorem dX5_findSteps_109 : decode cX5_findSteps 109 = .ok (.iconst 1, 1) := by decide +kernel
theorem dX5_findSteps_110 : decode cX5_findSteps 110 = .ok (.iload 7, 2) := by decide +kernel
theorem dX5_findSteps_112 : decode cX5_findSteps 112 = .ok (.ishl, 1) := by decide +kernel
theorem dX5_findSteps_113 : decode cX5_findSteps 113 = .ok (.ior, 1) := by decide +kernel
theorem dX5_findSteps_114 : decode cX5_findSteps 114 = .ok (.istore 6, 2) := by decide +kernel
theorem dX5_findSteps_116 : decode cX5_findSteps 116 = .ok (.iinc 7 1, 3) := by decide +kernel
theorem dX5_findSteps_119 : decode cX5_findSteps 119 = .ok (.goto (-88), 3) := by decide +kernel
theorem dX5_findSteps_122 : decode cX5_findSteps 122 = .ok (.iload 6, 2) := by decide +kernel
theorem dX5_findSteps_124 : decode cX5_findSteps 124 = .ok (.ireturn, 1) := by decide +kernel
theorem dX5_startBehind_0 : decode cX5_startBehind 0 = .ok (.aload_n 0, 1) := by decide +kernel
theorem dX5_startBehind_1 : decode cX5_startBehind 1 = .ok (.iload_n 1, 1) := by decide +kernel
theorem dX5_startBehind_2 : decode cX5_startBehind 2 = .ok (.invokevirtual 59, 3) := by decide +kernel
theorem dX5_startBehind_5 : decode cX5_startBehind 5 = .ok (.istore 4, 2) := by decide +kernel
theorem dX5_startBehind_7 : decode cX5_startBehind 7 = .ok (.iload_n 1, 1) := by decide +kernel
theorem dX5_startBehind_8 : decode cX5_startBehind 8 = .ok (.ifCond .eq 10, 3) := by decide +kernel
theorem dX5_startBehind_11 : decode cX5_startBehind 11 = .ok (.aload_n 2, 1) := by decide +kernel
theorem dX5_startBehind_12 : decode cX5_startBehind 12 = .ok (.getfield 90, 3) := by decide +kernel
theorem dX5_startBehind_15 : decode cX5_startBehind 15 = .ok (.ifCond .ne 6, 3) := by decide +kernel
theorem dX5_startBehind_18 : decode cX5_startBehind 18 = .ok (.iload 4, 2) := by decide +kernel
theorem dX5_startBehind_20 : decode cX5_startBehind 20 = .ok (.ireturn, 1) := by decide +kernel
theorem dX5_startBehind_21 : decode cX5_startBehind 21 = .ok (.aload_n 3, 1) := by decide +kernel
theorem dX5_startBehind_22 : decode cX5_startBehind 22 = .ok (.iload 4, 2) := by decide +kernel
theorem dX5_startBehind_24 : decode cX5_startBehind 24 = .ok (.invokevirtual 93, 3) := by decide +kernel
theorem dX5_startBehind_27 : decode cX5_startBehind 27 = .ok (.aload_n 2, 1) := by decide +kernel
theorem dX5_startBehind_28 : decode cX5_startBehind 28 = .ok (.getfield 90, 3) := by decide +kernel
theorem dX5_startBehind_31 : decode cX5_startBehind 31 = .ok (.if_icmp .ne 10, 3) := by decide +kernel
theorem dX5_startBehind_34 : decode cX5_startBehind 34 = .ok (.iload 4, 2) := by decide +kernel
theorem dX5_startBehind_36 : decode cX5_startBehind 36 = .ok (.iconst 1, 1) := by decide +kernel
theorem dX5_startBehind_37 : decode cX5_startBehind 37 = .ok (.iadd, 1) := by decide +kernel
theorem dX5_startBehind_38 : decode cX5_startBehind 38 = .ok (.goto 5, 3) := by decide +kernel
theorem dX5_startBehind_41 : decode cX5_startBehind 41 = .ok (.bipush (-9), 2) := by decide +kernel
theorem dX5_startBehind_43 : decode cX5_startBehind 43 = .ok (.ireturn, 1) := by decide +kernel
theorem dX5_countWays_0 : decode cX5_countWays 0 = .ok (.aload_n 1, 1) := by decide +kernel
theorem dX5_countWays_1 : decode cX5_countWays 1 = .ok (.invokevirtual 53, 3) := by decide +kernel
theorem dX5_countWays_4 : decode cX5_countWays 4 = .ok (.aload_n 0, 1) := by decide +kernel
theorem dX5_countWays_5 : decode cX5_countWays 5 = .ok (.getfield 18, 3) := by decide +kernel
theorem dX5_countWays_8 : decode cX5_countWays 8 = .ok (.arraylength, 1) := by decide +kernel
theorem dX5_countWays_9 : decode cX5_countWays 9 = .ok (.invokestatic 95, 3) := by decide +kernel
theorem dX5_countWays_12 : decode cX5_countWays 12 = .ok (.iconst 1, 1) := by decide +kernel
theorem dX5_countWays_13 : decode cX5_countWays 13 = .ok (.isub, 1) := by decide +kernel
theorem dX5_countWays_14 : decode cX5_countWays 14 = .ok (.istore_n 3, 1) := by decide +kernel
theorem dX5_countWays_15 : decode cX5_countWays 15 = .ok (.iload_n 3, 1) := by decide +kernel
theorem dX5_countWays_16 : decode cX5_countWays 16 = .ok (.ifCond .lt 34, 3) := by decide +kernel
theorem dX5_countWays_19 : decode cX5_countWays 19 = .ok (.aload_n 0, 1) := by decide +kernel
theorem dX5_countWays_20 : decode cX5_countWays 20 = .ok (.getfield 18, 3) := by decide +kernel
theorem dX5_countWays_23 : decode cX5_countWays 23 = .ok (.iload_n 3, 1) := by decide +kernel
theorem dX5_countWays_24 : decode cX5_countWays 24 = .ok (.aload_n 0, 1) := by decide +kernel
theorem dX5_countWays_25 : decode cX5_countWays 25 = .ok (.iload_n 3, 1) := by decide +kernel
theorem dX5_countWays_26 : decode cX5_countWays 26 = .ok (.invokevirtual 59, 3) := by decide +kernel
theorem dX5_countWays_29 : decode cX5_countWays 29 = .ok (.ifCond .lt 13, 3) := by decide +kernel
theorem dX5_countWays_32 : decode cX5_countWays 32 = .ok (.aload_n 0, 1) := by decide +kernel
theorem dX5_countWays_33 : decode cX5_countWays 33 = .ok (.iload_n 3, 1) := by decide +kernel
theorem dX5_countWays_34 : decode cX5_countWays 34 = .ok (.aload_n 1, 1) := by decide +kernel
theorem dX5_countWays_35 : decode cX5_countWays 35 = .ok (.aload_n 2, 1) := by decide +kernel
theorem dX5_countWays_36 : decode cX5_countWays 36 = .ok (.invokevirtual 100, 3) := by decide +kernel
theorem dX5_countWays_39 : decode cX5_countWays 39 = .ok (.goto 4, 3) := by decide +kernel
theorem dX5_countWays_42 : decode cX5_countWays 42 = .ok (.lconst 0, 1) := by decide +kernel
theorem dX5_countWays_43 : decode cX5_countWays 43 = .ok (.lastore, 1) := by decide +kernel
theorem dX5_countWays_44 : decode cX5_countWays 44 = .ok (.iinc 3 (-1), 3) := by decide +kernel
theorem dX5_countWays_47 : decode cX5_countWays 47 = .ok (.goto (-32), 3) := by decide +kernel
theorem dX5_countWays_50 : decode cX5_countWays 50 = .ok (.return_, 1) := by decide +kernel
theorem dX5_countFrom_0 : decode cX5_countFrom 0 = .ok (.aload_n 0, 1) := by decide +kernel
theorem dX5_countFrom_1 : decode cX5_countFrom 1 = .ok (.iload_n 1, 1) := by decide +kernel
theorem dX5_countFrom_2 : decode cX5_countFrom 2 = .ok (.invokevirtual 59, 3) := by decide +kernel
theorem dX5_countFrom_5 : decode cX5_countFrom 5 = .ok (.aload_n 3, 1) := by decide +kernel
theorem dX5_countFrom_6 : decode cX5_countFrom 6 = .ok (.getfield 104, 3) := by decide +kernel
theorem dX5_countFrom_9 : decode cX5_countFrom 9 = .ok (.if_icmp .ne 15, 3) := by decide +kernel
theorem dX5_countFrom_12 : decode cX5_countFrom 12 = .ok (.aload_n 2, 1) := by decide +kernel
theorem dX5_countFrom_13 : decode cX5_countFrom 13 = .ok (.iload_n 1, 1) := by decide +kernel
theorem dX5_countFrom_14 : decode cX5_countFrom 14 = .ok (.invokevirtual 107, 3) := by decide +kernel
theorem dX5_countFrom_17 : decode cX5_countFrom 17 = .ok (.ifCond .eq 7, 3) := by decide +kernel
theorem dX5_countFrom_20 : decode cX5_countFrom 20 = .ok (.lconst 1, 1) := by decide +kernel
theorem dX5_countFrom_21 : decode cX5_countFrom 21 = .ok (.goto 4, 3) := by decide +kernel
theorem dX5_countFrom_24 : decode cX5_countFrom 24 = .ok (.lconst 0, 1) := by decide +kernel
theorem dX5_countFrom_25 : decode cX5_countFrom 25 = .ok (.lstore 4, 2) := by decide +kernel
theorem dX5_countFrom_27 : decode cX5_countFrom 27 = .ok (.iconst 0, 1) := by decide +kernel
theorem dX5_countFrom_28 : decode cX5_countFrom 28 = .ok (.istore 6, 2) := by decide +kernel
theorem dX5_countFrom_30 : decode cX5_countFrom 30 = .ok (.iload 6, 2) := by decide +kernel
theorem dX5_countFrom_32 : decode cX5_countFrom 32 = .ok (.aload_n 2, 1) := by decide +kernel
theorem dX5_countFrom_33 : decode cX5_countFrom 33 = .ok (.getfield 73, 3) := by decide +kernel
theorem dX5_countFrom_36 : decode cX5_countFrom 36 = .ok (.if_icmp .ge 38, 3) := by decide +kernel
theorem dX5_countFrom_39 : decode cX5_countFrom 39 = .ok (.aload_n 0, 1) := by decide +kernel
theorem dX5_countFrom_40 : decode cX5_countFrom 40 = .ok (.iload_n 1, 1) := by decide +kernel
theorem dX5_countFrom_41 : decode cX5_countFrom 41 = .ok (.invokevirtual 111, 3) := by decide +kernel
theorem dX5_countFrom_44 : decode cX5_countFrom 44 = .ok (.iload 6, 2) := by decide +kernel
theorem dX5_countFrom_46 : decode cX5_countFrom 46 = .ok (.invokestatic 74, 3) := by decide +kernel
theorem dX5_countFrom_49 : decode cX5_countFrom 49 = .ok (.iconst 1, 1) := by decide +kernel
theorem dX5_countFrom_50 : decode cX5_countFrom 50 = .ok (.if_icmp .ne 18, 3) := by decide +kernel
theorem dX5_countFrom_53 : decode cX5_countFrom 53 = .ok (.lload 4, 2) := by decide +kernel
theorem dX5_countFrom_55 : decode cX5_countFrom 55 = .ok (.aload_n 0, 1) := by decide +kernel
theorem dX5_countFrom_56 : decode cX5_countFrom 56 = .ok (.iload_n 1, 1) := by decide +kernel
theorem dX5_countFrom_57 : decode cX5_countFrom 57 = .ok (.iload 6, 2) := by decide +kernel
theorem dX5_countFrom_59 : decode cX5_countFrom 59 = .ok (.invokestatic 87, 3) := by decide +kernel
theorem dX5_countFrom_62 : decode cX5_countFrom 62 = .ok (.invokevirtual 45, 3) := by decide +kernel
theorem dX5_countFrom_65 : decode cX5_countFrom 65 = .ok (.ladd, 1) := by decide +kernel
theorem dX5_countFrom_66 : decode cX5_countFrom 66 = .ok (.lstore 4, 2) := by decide +kernel
theorem dX5_countFrom_68 : decode cX5_countFrom 68 = .ok (.iinc 6 1, 3) := by decide +kernel
theorem dX5_countFrom_71 : decode cX5_countFrom 71 = .ok (.goto (-41), 3) := by decide +kernel
theorem dX5_countFrom_74 : decode cX5_countFrom 74 = .ok (.lload 4, 2) := by decide +kernel
theorem dX5_countFrom_76 : decode cX5_countFrom 76 = .ok (.lreturn, 1) := by decide +kernel
theorem dX5_listFirst_0 : decode cX5_listFirst 0 = .ok (.aload_n 0, 1) := by decide +kernel
theorem dX5_listFirst_1 : decode cX5_listFirst 1 = .ok (.iconst 0, 1) := by decide +kernel
theorem dX5_listFirst_2 : decode cX5_listFirst 2 = .ok (.putfield 49, 3) := by decide +kernel
theorem dX5_listFirst_5 : decode cX5_listFirst 5 = .ok (.iconst 0, 1) := by decide +kernel
theorem dX5_listFirst_6 : decode cX5_listFirst 6 = .ok (.istore_n 3, 1) := by decide +kernel
theorem dX5_listFirst_7 : decode cX5_listFirst 7 = .ok (.iconst 0, 1) := by decide +kernel
theorem dX5_listFirst_8 : decode cX5_listFirst 8 = .ok (.istore 4, 2) := by decide +kernel
theorem dX5_listFirst_10 : decode cX5_listFirst 10 = .ok (.iload 4, 2) := by decide +kernel
theorem dX5_listFirst_12 : decode cX5_listFirst 12 = .ok (.aload_n 0, 1) := by decide +kernel
theorem dX5_listFirst_13 : decode cX5_listFirst 13 = .ok (.getfield 22, 3) := by decide +kernel
theorem dX5_listFirst_16 : decode cX5_listFirst 16 = .ok (.arraylength, 1) := by decide +kernel
theorem dX5_listFirst_17 : decode cX5_listFirst 17 = .ok (.if_icmp .ge 111, 3) := by decide +kernel
theorem dX5_listFirst_20 : decode cX5_listFirst 20 = .ok (.iload 4, 2) := by decide +kernel
theorem dX5_listFirst_22 : decode cX5_listFirst 22 = .ok (.aload_n 0, 1) := by decide +kernel
theorem dX5_listFirst_23 : decode cX5_listFirst 23 = .ok (.getfield 25, 3) := by decide +kernel
theorem dX5_listFirst_26 : decode cX5_listFirst 26 = .ok (.arraylength, 1) := by decide +kernel
theorem dX5_listFirst_27 : decode cX5_listFirst 27 = .ok (.if_icmp .ge 101, 3) := by decide +kernel
theorem dX5_listFirst_30 : decode cX5_listFirst 30 = .ok (.iload 4, 2) := by decide +kernel
theorem dX5_listFirst_32 : decode cX5_listFirst 32 = .ok (.aload_n 0, 1) := by decide +kernel
theorem dX5_listFirst_33 : decode cX5_listFirst 33 = .ok (.getfield 28, 3) := by decide +kernel
theorem dX5_listFirst_36 : decode cX5_listFirst 36 = .ok (.arraylength, 1) := by decide +kernel
theorem dX5_listFirst_37 : decode cX5_listFirst 37 = .ok (.if_icmp .ge 91, 3) := by decide +kernel
theorem dX5_listFirst_40 : decode cX5_listFirst 40 = .ok (.aload_n 0, 1) := by decide +kernel
theorem dX5_listFirst_41 : decode cX5_listFirst 41 = .ok (.iload_n 3, 1) := by decide +kernel
theorem dX5_listFirst_42 : decode cX5_listFirst 42 = .ok (.aload_n 1, 1) := by decide +kernel
theorem dX5_listFirst_43 : decode cX5_listFirst 43 = .ok (.invokevirtual 114, 3) := by decide +kernel
theorem dX5_listFirst_46 : decode cX5_listFirst 46 = .ok (.istore 5, 2) := by decide +kernel
theorem dX5_listFirst_48 : decode cX5_listFirst 48 = .ok (.iload 5, 2) := by decide +kernel
theorem dX5_listFirst_50 : decode cX5_listFirst 50 = .ok (.ifCond .ge 4, 3) := by decide +kernel
theorem dX5_listFirst_53 : decode cX5_listFirst 53 = .ok (.return_, 1) := by decide +kernel
theorem dX5_listFirst_54 : decode cX5_listFirst 54 = .ok (.aload_n 0, 1) := by decide +kernel
theorem dX5_listFirst_55 : decode cX5_listFirst 55 = .ok (.iload_n 3, 1) := by decide +kernel
theorem dX5_listFirst_56 : decode cX5_listFirst 56 = .ok (.aload_n 1, 1) := by decide +kernel
theorem dX5_listFirst_57 : decode cX5_listFirst 57 = .ok (.aload_n 2, 1) := by decide +kernel
theorem dX5_listFirst_58 : decode cX5_listFirst 58 = .ok (.invokevirtual 67, 3) := by decide +kernel
theorem dX5_listFirst_61 : decode cX5_listFirst 61 = .ok (.istore 6, 2) := by decide +kernel
theorem dX5_listFirst_63 : decode cX5_listFirst 63 = .ok (.iload_n 3, 1) := by decide +kernel
theorem dX5_listFirst_64 : decode cX5_listFirst 64 = .ok (.iload 5, 2) := by decide +kernel
theorem dX5_listFirst_66 : decode cX5_listFirst 66 = .ok (.invokestatic 87, 3) := by decide +kernel
theorem dX5_listFirst_69 : decode cX5_listFirst 69 = .ok (.istore_n 3, 1) := by decide +kernel
theorem dX5_listFirst_70 : decode cX5_listFirst 70 = .ok (.aload_n 0, 1) := by decide +kernel
theorem dX5_listFirst_71 : decode cX5_listFirst 71 = .ok (.getfield 22, 3) := by decide +kernel
theorem dX5_listFirst_74 : decode cX5_listFirst 74 = .ok (.iload 4, 2) := by decide +kernel
theorem dX5_listFirst_76 : decode cX5_listFirst 76 = .ok (.iload 5, 2) := by decide +kernel
theorem dX5_listFirst_78 : decode cX5_listFirst 78 = .ok (.iastore, 1) := by decide +kernel
theorem dX5_listFirst_79 : decode cX5_listFirst 79 = .ok (.aload_n 0, 1) := by decide +kernel
theorem dX5_listFirst_80 : decode cX5_listFirst 80 = .ok (.getfield 25, 3) := by decide +kernel
theorem dX5_listFirst_83 : decode cX5_listFirst 83 = .ok (.iload 4, 2) := by decide +kernel
theorem dX5_listFirst_85 : decode cX5_listFirst 85 = .ok (.iload 6, 2) := by decide +kernel
theorem dX5_listFirst_87 : decode cX5_listFirst 87 = .ok (.iastore, 1) := by decide +kernel
theorem dX5_listFirst_88 : decode cX5_listFirst 88 = .ok (.aload_n 0, 1) := by decide +kernel
theorem dX5_listFirst_89 : decode cX5_listFirst 89 = .ok (.getfield 28, 3) := by decide +kernel
theorem dX5_listFirst_92 : decode cX5_listFirst 92 = .ok (.iload 4, 2) := by decide +kernel
theorem dX5_listFirst_94 : decode cX5_listFirst 94 = .ok (.aload_n 2, 1) := by decide +kernel
theorem dX5_listFirst_95 : decode cX5_listFirst 95 = .ok (.aload_n 1, 1) := by decide +kernel
theorem dX5_listFirst_96 : decode cX5_listFirst 96 = .ok (.iload 5, 2) := by decide +kernel
theorem dX5_listFirst_98 : decode cX5_listFirst 98 = .ok (.invokevirtual 78, 3) := by decide +kernel
theorem dX5_listFirst_101 : decode cX5_listFirst 101 = .ok (.iload 6, 2) := by decide +kernel
theorem dX5_listFirst_103 : decode cX5_listFirst 103 = .ok (.aload_n 0, 1) := by decide +kernel
theorem dX5_listFirst_104 : decode cX5_listFirst 104 = .ok (.iload_n 3, 1) := by decide +kernel
theorem dX5_listFirst_105 : decode cX5_listFirst 105 = .ok (.invokevirtual 59, 3) := by decide +kernel
theorem dX5_listFirst_108 : decode cX5_listFirst 108 = .ok (.invokevirtual 118, 3) := by decide +kernel
theorem dX5_listFirst_111 : decode cX5_listFirst 111 = .ok (.iastore, 1) := by decide +kernel
theorem dX5_listFirst_112 : decode cX5_listFirst 112 = .ok (.aload_n 0, 1) := by decide +kernel
theorem dX5_listFirst_113 : decode cX5_listFirst 113 = .ok (.dup, 1) := by decide +kernel
theorem dX5_listFirst_114 : decode cX5_listFirst 114 = .ok (.getfield 49, 3) := by decide +kernel
theorem dX5_listFirst_117 : decode cX5_listFirst 117 = .ok (.iconst 1, 1) := by decide +kernel
theorem dX5_listFirst_118 : decode cX5_listFirst 118 = .ok (.iadd, 1) := by decide +kernel
theorem dX5_listFirst_119 : decode cX5_listFirst 119 = .ok (.putfield 49, 3) := by decide +kernel
theorem dX5_listFirst_122 : decode cX5_listFirst 122 = .ok (.iinc 4 1, 3) := by decide +kernel
theorem dX5_listFirst_125 : decode cX5_listFirst 125 = .ok (.goto (-115), 3) := by decide +kernel
theorem dX5_listFirst_128 : decode cX5_listFirst 128 = .ok (.return_, 1) := by decide +kernel
theorem dX5_firstBehind_0 : decode cX5_firstBehind 0 = .ok (.iconst 0, 1) := by decide +kernel
theorem dX5_firstBehind_1 : decode cX5_firstBehind 1 = .ok (.istore_n 3, 1) := by decide +kernel
theorem dX5_firstBehind_2 : decode cX5_firstBehind 2 = .ok (.iload_n 3, 1) := by decide +kernel
theorem dX5_firstBehind_3 : decode cX5_firstBehind 3 = .ok (.aload_n 2, 1) := by decide +kernel
theorem dX5_firstBehind_4 : decode cX5_firstBehind 4 = .ok (.getfield 73, 3) := by decide +kernel
theorem dX5_firstBehind_7 : decode cX5_firstBehind 7 = .ok (.if_icmp .ge 38, 3) := by decide +kernel
theorem dX5_firstBehind_10 : decode cX5_firstBehind 10 = .ok (.aload_n 0, 1) := by decide +kernel
theorem dX5_firstBehind_11 : decode cX5_firstBehind 11 = .ok (.iload_n 1, 1) := by decide +kernel
theorem dX5_firstBehind_12 : decode cX5_firstBehind 12 = .ok (.invokevirtual 111, 3) := by decide +kernel
theorem dX5_firstBehind_15 : decode cX5_firstBehind 15 = .ok (.iload_n 3, 1) := by decide +kernel
theorem dX5_firstBehind_16 : decode cX5_firstBehind 16 = .ok (.invokestatic 74, 3) := by decide +kernel
theorem dX5_firstBehind_19 : decode cX5_firstBehind 19 = .ok (.iconst 1, 1) := by decide +kernel
theorem dX5_firstBehind_20 : decode cX5_firstBehind 20 = .ok (.if_icmp .ne 19, 3) := by decide +kernel
theorem dX5_firstBehind_23 : decode cX5_firstBehind 23 = .ok (.aload_n 0, 1) := by decide +kernel
theorem dX5_firstBehind_24 : decode cX5_firstBehind 24 = .ok (.iload_n 1, 1) := by decide +kernel
theorem dX5_firstBehind_25 : decode cX5_firstBehind 25 = .ok (.iload_n 3, 1) := by decide +kernel
theorem dX5_firstBehind_26 : decode cX5_firstBehind 26 = .ok (.invokestatic 87, 3) := by decide +kernel
theorem dX5_firstBehind_29 : decode cX5_firstBehind 29 = .ok (.invokevirtual 45, 3) := by decide +kernel
theorem dX5_firstBehind_32 : decode cX5_firstBehind 32 = .ok (.lconst 0, 1) := by decide +kernel
theorem dX5_firstBehind_33 : decode cX5_firstBehind 33 = .ok (.lcmp, 1) := by decide +kernel
theorem dX5_firstBehind_34 : decode cX5_firstBehind 34 = .ok (.ifCond .le 5, 3) := by decide +kernel
theorem dX5_firstBehind_37 : decode cX5_firstBehind 37 = .ok (.iload_n 3, 1) := by decide +kernel
theorem dX5_firstBehind_38 : decode cX5_firstBehind 38 = .ok (.ireturn, 1) := by decide +kernel
theorem dX5_firstBehind_39 : decode cX5_firstBehind 39 = .ok (.iinc 3 1, 3) := by decide +kernel
theorem dX5_firstBehind_42 : decode cX5_firstBehind 42 = .ok (.goto (-40), 3) := by decide +kernel
theorem dX5_firstBehind_45 : decode cX5_firstBehind 45 = .ok (.bipush (-9), 2) := by decide +kernel
theorem dX5_firstBehind_47 : decode cX5_firstBehind 47 = .ok (.ireturn, 1) := by decide +kernel
theorem dX5_farthest_0 : decode cX5_farthest 0 = .ok (.iconst 0, 1) := by decide +kernel
theorem dX5_farthest_1 : decode cX5_farthest 1 = .ok (.istore_n 3, 1) := by decide +kernel
theorem dX5_farthest_2 : decode cX5_farthest 2 = .ok (.iconst 0, 1) := by decide +kernel
theorem dX5_farthest_3 : decode cX5_farthest 3 = .ok (.istore 4, 2) := by decide +kernel
theorem dX5_farthest_5 : decode cX5_farthest 5 = .ok (.iload 4, 2) := by decide +kernel
theorem dX5_farthest_7 : decode cX5_farthest 7 = .ok (.aload_n 1, 1) := by decide +kernel
theorem dX5_farthest_8 : decode cX5_farthest 8 = .ok (.invokevirtual 53, 3) := by decide +kernel
theorem dX5_farthest_11 : decode cX5_farthest 11 = .ok (.if_icmp .ge 31, 3) := by decide +kernel
theorem dX5_farthest_14 : decode cX5_farthest 14 = .ok (.aload_n 0, 1) := by decide +kernel
theorem dX5_farthest_15 : decode cX5_farthest 15 = .ok (.iload 4, 2) := by decide +kernel
theorem dX5_farthest_17 : decode cX5_farthest 17 = .ok (.invokevirtual 59, 3) := by decide +kernel
theorem dX5_farthest_20 : decode cX5_farthest 20 = .ok (.ifCond .lt 16, 3) := by decide +kernel
theorem dX5_farthest_23 : decode cX5_farthest 23 = .ok (.iload_n 3, 1) := by decide +kernel
theorem dX5_farthest_24 : decode cX5_farthest 24 = .ok (.aload_n 0, 1) := by decide +kernel
theorem dX5_farthest_25 : decode cX5_farthest 25 = .ok (.iload 4, 2) := by decide +kernel
theorem dX5_farthest_27 : decode cX5_farthest 27 = .ok (.aload_n 1, 1) := by decide +kernel
theorem dX5_farthest_28 : decode cX5_farthest 28 = .ok (.aload_n 2, 1) := by decide +kernel
theorem dX5_farthest_29 : decode cX5_farthest 29 = .ok (.invokevirtual 122, 3) := by decide +kernel
theorem dX5_farthest_32 : decode cX5_farthest 32 = .ok (.invokestatic 125, 3) := by decide +kernel
theorem dX5_farthest_35 : decode cX5_farthest 35 = .ok (.istore_n 3, 1) := by decide +kernel
theorem dX5_farthest_36 : decode cX5_farthest 36 = .ok (.iinc 4 1, 3) := by decide +kernel
theorem dX5_farthest_39 : decode cX5_farthest 39 = .ok (.goto (-34), 3) := by decide +kernel
theorem dX5_farthest_42 : decode cX5_farthest 42 = .ok (.iload_n 3, 1) := by decide +kernel
theorem dX5_farthest_43 : decode cX5_farthest 43 = .ok (.ireturn, 1) := by decide +kernel
theorem dX5_farthestBehind_0 : decode cX5_farthestBehind 0 = .ok (.aload_n 2, 1) := by decide +kernel
theorem dX5_farthestBehind_1 : decode cX5_farthestBehind 1 = .ok (.iload_n 1, 1) := by decide +kernel
theorem dX5_farthestBehind_2 : decode cX5_farthestBehind 2 = .ok (.invokevirtual 70, 3) := by decide +kernel
theorem dX5_farthestBehind_5 : decode cX5_farthestBehind 5 = .ok (.istore 4, 2) := by decide +kernel
theorem dX5_farthestBehind_7 : decode cX5_farthestBehind 7 = .ok (.aload_n 0, 1) := by decide +kernel
theorem dX5_farthestBehind_8 : decode cX5_farthestBehind 8 = .ok (.iload_n 1, 1) := by decide +kernel
theorem dX5_farthestBehind_9 : decode cX5_farthestBehind 9 = .ok (.aload_n 2, 1) := by decide +kernel
theorem dX5_farthestBehind_10 : decode cX5_farthestBehind 10 = .ok (.aload_n 3, 1) := by decide +kernel
theorem dX5_farthestBehind_11 : decode cX5_farthestBehind 11 = .ok (.invokevirtual 67, 3) := by decide +kernel
theorem dX5_farthestBehind_14 : decode cX5_farthestBehind 14 = .ok (.istore 5, 2) := by decide +kernel
theorem dX5_farthestBehind_16 : decode cX5_farthestBehind 16 = .ok (.iload 4, 2) := by decide +kernel
theorem dX5_farthestBehind_18 : decode cX5_farthestBehind 18 = .ok (.ifCond .eq 8, 3) := by decide +kernel
theorem dX5_farthestBehind_21 : decode cX5_farthestBehind 21 = .ok (.iload 5, 2) := by decide +kernel
theorem dX5_farthestBehind_23 : decode cX5_farthestBehind 23 = .ok (.ifCond .ge 9, 3) := by decide +kernel
theorem dX5_farthestBehind_26 : decode cX5_farthestBehind 26 = .ok (.aload_n 0, 1) := by decide +kernel
theorem dX5_farthestBehind_27 : decode cX5_farthestBehind 27 = .ok (.iload_n 1, 1) := by decide +kernel
theorem dX5_farthestBehind_28 : decode cX5_farthestBehind 28 = .ok (.invokevirtual 59, 3) := by decide +kernel
theorem dX5_farthestBehind_31 : decode cX5_farthestBehind 31 = .ok (.ireturn, 1) := by decide +kernel
theorem dX5_farthestBehind_32 : decode cX5_farthestBehind 32 = .ok (.iload 5, 2) := by decide +kernel
theorem dX5_farthestBehind_34 : decode cX5_farthestBehind 34 = .ok (.istore 6, 2) := by decide +kernel
theorem dX5_farthestBehind_36 : decode cX5_farthestBehind 36 = .ok (.iconst 0, 1) := by decide +kernel
theorem dX5_farthestBehind_37 : decode cX5_farthestBehind 37 = .ok (.istore 7, 2) := by decide +kernel
theorem dX5_farthestBehind_39 : decode cX5_farthestBehind 39 = .ok (.iload 7, 2) := by decide +kernel
theorem dX5_farthestBehind_41 : decode cX5_farthestBehind 41 = .ok (.aload_n 2, 1) := by decide +kernel
theorem dX5_farthestBehind_42 : decode cX5_farthestBehind 42 = .ok (.getfield 73, 3) := by decide +kernel
theorem dX5_farthestBehind_45 : decode cX5_farthestBehind 45 = .ok (.if_icmp .ge 42, 3) := by decide +kernel
theorem dX5_farthestBehind_48 : decode cX5_farthestBehind 48 = .ok (.iload 4, 2) := by decide +kernel
theorem dX5_farthestBehind_50 : decode cX5_farthestBehind 50 = .ok (.iload 7, 2) := by decide +kernel
theorem dX5_farthestBehind_52 : decode cX5_farthestBehind 52 = .ok (.invokestatic 74, 3) := by decide +kernel
theorem dX5_farthestBehind_55 : decode cX5_farthestBehind 55 = .ok (.iconst 1, 1) := by decide +kernel
theorem dX5_farthestBehind_56 : decode cX5_farthestBehind 56 = .ok (.if_icmp .ne 25, 3) := by decide +kernel
theorem dX5_farthestBehind_59 : decode cX5_farthestBehind 59 = .ok (.iload 6, 2) := by decide +kernel
theorem dX5_farthestBehind_61 : decode cX5_farthestBehind 61 = .ok (.iload 5, 2) := by decide +kernel
theorem dX5_farthestBehind_63 : decode cX5_farthestBehind 63 = .ok (.aload_n 3, 1) := by decide +kernel
theorem dX5_farthestBehind_64 : decode cX5_farthestBehind 64 = .ok (.aload_n 2, 1) := by decide +kernel
theorem dX5_farthestBehind_65 : decode cX5_farthestBehind 65 = .ok (.iload 7, 2) := by decide +kernel
theorem dX5_farthestBehind_67 : decode cX5_farthestBehind 67 = .ok (.invokevirtual 78, 3) := by decide +kernel
theorem dX5_farthestBehind_70 : decode cX5_farthestBehind 70 = .ok (.iload 5, 2) := by decide +kernel
theorem dX5_farthestBehind_72 : decode cX5_farthestBehind 72 = .ok (.invokevirtual 128, 3) := by decide +kernel
theorem dX5_farthestBehind_75 : decode cX5_farthestBehind 75 = .ok (.iadd, 1) := by decide +kernel
theorem dX5_farthestBehind_76 : decode cX5_farthestBehind 76 = .ok (.invokestatic 125, 3) := by decide +kernel
theorem dX5_farthestBehind_79 : decode cX5_farthestBehind 79 = .ok (.istore 6, 2) := by decide +kernel
theorem dX5_farthestBehind_81 : decode cX5_farthestBehind 81 = .ok (.iinc 7 1, 3) := by decide +kernel
theorem dX5_farthestBehind_84 : decode cX5_farthestBehind 84 = .ok (.goto (-45), 3) := by decide +kernel
theorem dX5_farthestBehind_87 : decode cX5_farthestBehind 87 = .ok (.iload 6, 2) := by decide +kernel
theorem dX5_farthestBehind_89 : decode cX5_farthestBehind 89 = .ok (.ireturn, 1) := by decide +kernel
theorem dX5_membersGoingOn_0 : decode cX5_membersGoingOn 0 = .ok (.iconst 0, 1) := by decide +kernel
theorem dX5_membersGoingOn_1 : decode cX5_membersGoingOn 1 = .ok (.istore_n 3, 1) := by decide +kernel
theorem dX5_membersGoingOn_2 : decode cX5_membersGoingOn 2 = .ok (.iconst 0, 1) := by decide +kernel
theorem dX5_membersGoingOn_3 : decode cX5_membersGoingOn 3 = .ok (.istore 4, 2) := by decide +kernel
theorem dX5_membersGoingOn_5 : decode cX5_membersGoingOn 5 = .ok (.iconst 0, 1) := by decide +kernel
theorem dX5_membersGoingOn_6 : decode cX5_membersGoingOn 6 = .ok (.istore 5, 2) := by decide +kernel
theorem dX5_membersGoingOn_8 : decode cX5_membersGoingOn 8 = .ok (.iload 5, 2) := by decide +kernel
theorem dX5_membersGoingOn_10 : decode cX5_membersGoingOn 10 = .ok (.aload_n 1, 1) := by decide +kernel
theorem dX5_membersGoingOn_11 : decode cX5_membersGoingOn 11 = .ok (.invokevirtual 53, 3) := by decide +kernel
theorem dX5_membersGoingOn_14 : decode cX5_membersGoingOn 14 = .ok (.if_icmp .ge 35, 3) := by decide +kernel
theorem dX5_membersGoingOn_17 : decode cX5_membersGoingOn 17 = .ok (.aload_n 0, 1) := by decide +kernel
theorem dX5_membersGoingOn_18 : decode cX5_membersGoingOn 18 = .ok (.iload 5, 2) := by decide +kernel
theorem dX5_membersGoingOn_20 : decode cX5_membersGoingOn 20 = .ok (.invokevirtual 59, 3) := by decide +kernel
theorem dX5_membersGoingOn_23 : decode cX5_membersGoingOn 23 = .ok (.aload_n 2, 1) := by decide +kernel
theorem dX5_membersGoingOn_24 : decode cX5_membersGoingOn 24 = .ok (.getfield 104, 3) := by decide +kernel
theorem dX5_membersGoingOn_27 : decode cX5_membersGoingOn 27 = .ok (.if_icmp .ne 16, 3) := by decide +kernel
theorem dX5_membersGoingOn_30 : decode cX5_membersGoingOn 30 = .ok (.iconst 1, 1) := by decide +kernel
theorem dX5_membersGoingOn_31 : decode cX5_membersGoingOn 31 = .ok (.istore_n 3, 1) := by decide +kernel
theorem dX5_membersGoingOn_32 : decode cX5_membersGoingOn 32 = .ok (.iload 4, 2) := by decide +kernel
theorem dX5_membersGoingOn_34 : decode cX5_membersGoingOn 34 = .ok (.aload_n 1, 1) := by decide +kernel
theorem dX5_membersGoingOn_35 : decode cX5_membersGoingOn 35 = .ok (.iload 5, 2) := by decide +kernel
theorem dX5_membersGoingOn_37 : decode cX5_membersGoingOn 37 = .ok (.invokevirtual 70, 3) := by decide +kernel
theorem dX5_membersGoingOn_40 : decode cX5_membersGoingOn 40 = .ok (.ior, 1) := by decide +kernel
theorem dX5_membersGoingOn_41 : decode cX5_membersGoingOn 41 = .ok (.istore 4, 2) := by decide +kernel
theorem dX5_membersGoingOn_43 : decode cX5_membersGoingOn 43 = .ok (.iinc 5 1, 3) := by decide +kernel
theorem dX5_membersGoingOn_46 : decode cX5_membersGoingOn 46 = .ok (.goto (-38), 3) := by decide +kernel
theorem dX5_membersGoingOn_49 : decode cX5_membersGoingOn 49 = .ok (.iload_n 3, 1) := by decide +kernel
theorem dX5_membersGoingOn_50 : decode cX5_membersGoingOn 50 = .ok (.ifCond .eq 8, 3) := by decide +kernel
theorem dX5_membersGoingOn_53 : decode cX5_membersGoingOn 53 = .ok (.iload 4, 2) := by decide +kernel
theorem dX5_membersGoingOn_55 : decode cX5_membersGoingOn 55 = .ok (.goto 5, 3) := by decide +kernel
theorem dX5_membersGoingOn_58 : decode cX5_membersGoingOn 58 = .ok (.bipush (-9), 2) := by decide +kernel
theorem dX5_membersGoingOn_60 : decode cX5_membersGoingOn 60 = .ok (.ireturn, 1) := by decide +kernel
theorem dX6_init_0 : decode cX6_init 0 = .ok (.aload_n 0, 1) := by decide +kernel
theorem dX6_init_1 : decode cX6_init 1 = .ok (.invokespecial 1, 3) := by decide +kernel
theorem dX6_init_4 : decode cX6_init 4 = .ok (.aload_n 0, 1) := by decide +kernel
theorem dX6_init_5 : decode cX6_init 5 = .ok (.new 7, 3) := by decide +kernel
theorem dX6_init_8 : decode cX6_init 8 = .ok (.dup, 1) := by decide +kernel
theorem dX6_init_9 : decode cX6_init 9 = .ok (.invokespecial 9, 3) := by decide +kernel
theorem dX6_init_12 : decode cX6_init 12 = .ok (.putfield 10, 3) := by decide +kernel
theorem dX6_init_15 : decode cX6_init 15 = .ok (.aload_n 0, 1) := by decide +kernel
theorem dX6_init_16 : decode cX6_init 16 = .ok (.new 7, 3) := by decide +kernel
theorem dX6_init_19 : decode cX6_init 19 = .ok (.dup, 1) := by decide +kernel
theorem dX6_init_20 : decode cX6_init 20 = .ok (.invokespecial 9, 3) := by decide +kernel
theorem dX6_init_23 : decode cX6_init 23 = .ok (.putfield 16, 3) := by decide +kernel
theorem dX6_init_26 : decode cX6_init 26 = .ok (.aload_n 0, 1) := by decide +kernel
theorem dX6_init_27 : decode cX6_init 27 = .ok (.new 19, 3) := by decide +kernel
theorem dX6_init_30 : decode cX6_init 30 = .ok (.dup, 1) := by decide +kernel
theorem dX6_init_31 : decode cX6_init 31 = .ok (.invokespecial 21, 3) := by decide +kernel
theorem dX6_init_34 : decode cX6_init 34 = .ok (.putfield 22, 3) := by decide +kernel
theorem dX6_init_37 : decode cX6_init 37 = .ok (.aload_n 0, 1) := by decide +kernel
theorem dX6_init_38 : decode cX6_init 38 = .ok (.new 26, 3) := by decide +kernel
theorem dX6_init_41 : decode cX6_init 41 = .ok (.dup, 1) := by decide +kernel
theorem dX6_init_42 : decode cX6_init 42 = .ok (.invokespecial 28, 3) := by decide +kernel
theorem dX6_init_45 : decode cX6_init 45 = .ok (.putfield 29, 3) := by decide +kernel
theorem dX6_init_48 : decode cX6_init 48 = .ok (.aload_n 0, 1) := by decide +kernel
theorem dX6_init_49 : decode cX6_init 49 = .ok (.iconst 2, 1) := by decide +kernel
theorem dX6_init_50 : decode cX6_init 50 = .ok (.anewarray 19, 3) := by decide +kernel
theorem dX6_init_53 : decode cX6_init 53 = .ok (.putfield 33, 3) := by decide +kernel
theorem dX6_init_56 : decode cX6_init 56 = .ok (.aload_n 0, 1) := by decide +kernel
theorem dX6_init_57 : decode cX6_init 57 = .ok (.iconst 2, 1) := by decide +kernel
theorem dX6_init_58 : decode cX6_init 58 = .ok (.newarray .boolean, 2) := by decide +kernel
theorem dX6_init_60 : decode cX6_init 60 = .ok (.putfield 37, 3) := by decide +kernel
theorem dX6_init_63 : decode cX6_init 63 = .ok (.aload_n 0, 1) := by decide +kernel
theorem dX6_init_64 : decode cX6_init 64 = .ok (.new 41, 3) := by decide +kernel
theorem dX6_init_67 : decode cX6_init 67 = .ok (.dup, 1) := by decide +kernel
theorem dX6_init_68 : decode cX6_init 68 = .ok (.invokespecial 43, 3) := by decide +kernel
theorem dX6_init_71 : decode cX6_init 71 = .ok (.putfield 44, 3) := by decide +kernel
theorem dX6_init_74 : decode cX6_init 74 = .ok (.aload_n 0, 1) := by decide +kernel
theorem dX6_init_75 : decode cX6_init 75 = .ok (.new 48, 3) := by decide +kernel
theorem dX6_init_78 : decode cX6_init 78 = .ok (.dup, 1) := by decide +kernel
theorem dX6_init_79 : decode cX6_init 79 = .ok (.invokespecial 50, 3) := by decide +kernel
theorem dX6_init_82 : decode cX6_init 82 = .ok (.putfield 51, 3) := by decide +kernel
theorem dX6_init_85 : decode cX6_init 85 = .ok (.iconst 0, 1) := by decide +kernel
theorem dX6_init_86 : decode cX6_init 86 = .ok (.istore_n 1, 1) := by decide +kernel
theorem dX6_init_87 : decode cX6_init 87 = .ok (.iload_n 1, 1) := by decide +kernel
theorem dX6_init_88 : decode cX6_init 88 = .ok (.aload_n 0, 1) := by decide +kernel
theorem dX6_init_89 : decode cX6_init 89 = .ok (.getfield 33, 3) := by decide +kernel
theorem dX6_init_92 : decode cX6_init 92 = .ok (.arraylength, 1) := by decide +kernel
theorem dX6_init_93 : decode cX6_init 93 = .ok (.if_icmp .ge 22, 3) := by decide +kernel
theorem dX6_init_96 : decode cX6_init 96 = .ok (.aload_n 0, 1) := by decide +kernel
theorem dX6_init_97 : decode cX6_init 97 = .ok (.getfield 33, 3) := by decide +kernel
theorem dX6_init_100 : decode cX6_init 100 = .ok (.iload_n 1, 1) := by decide +kernel
theorem dX6_init_101 : decode cX6_init 101 = .ok (.new 19, 3) := by decide +kernel
theorem dX6_init_104 : decode cX6_init 104 = .ok (.dup, 1) := by decide +kernel
theorem dX6_init_105 : decode cX6_init 105 = .ok (.invokespecial 21, 3) := by decide +kernel
theorem dX6_init_108 : decode cX6_init 108 = .ok (.aastore, 1) := by decide +kernel
theorem dX6_init_109 : decode cX6_init 109 = .ok (.iinc 1 1, 3) := by decide +kernel
theorem dX6_init_112 : decode cX6_init 112 = .ok (.goto (-25), 3) := by decide +kernel
theorem dX6_init_115 : decode cX6_init 115 = .ok (.return_, 1) := by decide +kernel
theorem dX6_write_0 : decode cX6_write 0 = .ok (.iload_n 1, 1) := by decide +kernel
theorem dX6_write_1 : decode cX6_write 1 = .ok (.bipush 32, 2) := by decide +kernel
theorem dX6_write_3 : decode cX6_write 3 = .ok (.if_icmp .lt 9, 3) := by decide +kernel
theorem dX6_write_6 : decode cX6_write 6 = .ok (.iload_n 1, 1) := by decide +kernel
theorem dX6_write_7 : decode cX6_write 7 = .ok (.bipush 126, 2) := by decide +kernel
theorem dX6_write_9 : decode cX6_write 9 = .ok (.if_icmp .le 5, 3) := by decide +kernel
theorem dX6_write_12 : decode cX6_write 12 = .ok (.iconst (-1), 1) := by decide +kernel
theorem dX6_write_13 : decode cX6_write 13 = .ok (.ireturn, 1) := by decide +kernel
theorem dX6_write_14 : decode cX6_write 14 = .ok (.aload_n 0, 1) := by decide +kernel
theorem dX6_write_15 : decode cX6_write 15 = .ok (.getfield 10, 3) := by decide +kernel
theorem dX6_write_18 : decode cX6_write 18 = .ok (.iload_n 1, 1) := by decide +kernel
theorem dX6_write_19 : decode cX6_write 19 = .ok (.invokevirtual 55, 3) := by decide +kernel
theorem dX6_write_22 : decode cX6_write 22 = .ok (.ifCond .ne 6, 3) := by decide +kernel
theorem dX6_write_25 : decode cX6_write 25 = .ok (.bipush (-3), 2) := by decide +kernel
theorem dX6_write_27 : decode cX6_write 27 = .ok (.ireturn, 1) := by decide +kernel
theorem dX6_write_28 : decode cX6_write 28 = .ok (.aload_n 0, 1) := by decide +kernel
theorem dX6_write_29 : decode cX6_write 29 = .ok (.getfield 44, 3) := by decide +kernel
theorem dX6_write_32 : decode cX6_write 32 = .ok (.invokevirtual 59, 3) := by decide +kernel
theorem dX6_write_35 : decode cX6_write 35 = .ok (.aload_n 0, 1) := by decide +kernel
theorem dX6_write_36 : decode cX6_write 36 = .ok (.getfield 10, 3) := by decide +kernel
theorem dX6_write_39 : decode cX6_write 39 = .ok (.getfield 62, 3) := by decide +kernel
theorem dX6_write_42 : decode cX6_write 42 = .ok (.ireturn, 1) := by decide +kernel
theorem dX6_wipe_0 : decode cX6_wipe 0 = .ok (.aload_n 0, 1) := by decide +kernel
theorem dX6_wipe_1 : decode cX6_wipe 1 = .ok (.getfield 10, 3) := by decide +kernel
theorem dX6_wipe_4 : decode cX6_wipe 4 = .ok (.getfield 62, 3) := by decide +kernel
theorem dX6_wipe_7 : decode cX6_wipe 7 = .ok (.istore_n 1, 1) := by decide +kernel
theorem dX6_wipe_8 : decode cX6_wipe 8 = .ok (.aload_n 0, 1) := by decide +kernel
theorem dX6_wipe_9 : decode cX6_wipe 9 = .ok (.getfield 10, 3) := by decide +kernel
theorem dX6_wipe_12 : decode cX6_wipe 12 = .ok (.invokevirtual 66, 3) := by decide +kernel
theorem dX6_wipe_15 : decode cX6_wipe 15 = .ok (.aload_n 0, 1) := by decide +kernel
theorem dX6_wipe_16 : decode cX6_wipe 16 = .ok (.getfield 44, 3) := by decide +kernel
theorem dX6_wipe_19 : decode cX6_wipe 19 = .ok (.invokevirtual 59, 3) := by decide +kernel
end
section
theorem dX6_wipe_22 : decode cX6_wipe 22 = .ok (.iload_n 1, 1) := by decide +kernel
theorem dX6_wipe_23 : decode cX6_wipe 23 = .ok (.ireturn, 1) := by decide +kernel
theorem dX6_declare_0 : decode cX6_declare 0 = .ok (.iload_n 1, 1) := by decide +kernel
theorem dX6_declare_1 : decode cX6_declare 1 = .ok (.invokestatic 69, 3) := by decide +kernel
theorem dX6_declare_4 : decode cX6_declare 4 = .ok (.ifCond .eq 26, 3) := by decide +kernel
theorem dX6_declare_7 : decode cX6_declare 7 = .ok (.iload_n 2, 1) := by decide +kernel
theorem dX6_declare_8 : decode cX6_declare 8 = .ok (.ifCond .lt 22, 3) := by decide +kernel
theorem dX6_declare_11 : decode cX6_declare 11 = .ok (.iload_n 3, 1) := by decide +kernel
theorem dX6_declare_12 : decode cX6_declare 12 = .ok (.iconst 1, 1) := by decide +kernel
theorem dX6_declare_13 : decode cX6_declare 13 = .ok (.if_icmp .lt 17, 3) := by decide +kernel
theorem dX6_declare_16 : decode cX6_declare 16 = .ok (.iload_n 3, 1) := by decide +kernel
theorem dX6_declare_17 : decode cX6_declare 17 = .ok (.iconst 3, 1) := by decide +kernel
theorem dX6_declare_18 : decode cX6_declare 18 = .ok (.if_icmp .gt 12, 3) := by decide +kernel
theorem dX6_declare_21 : decode cX6_declare 21 = .ok (.iload_n 2, 1) := by decide +kernel
theorem dX6_declare_22 : decode cX6_declare 22 = .ok (.iload_n 3, 1) := by decide +kernel
theorem dX6_declare_23 : decode cX6_declare 23 = .ok (.if_icmp .gt 7, 3) := by decide +kernel
theorem dX6_declare_26 : decode cX6_declare 26 = .ok (.iconst 1, 1) := by decide +kernel
theorem dX6_declare_27 : decode cX6_declare 27 = .ok (.goto 4, 3) := by decide +kernel
theorem dX6_declare_30 : decode cX6_declare 30 = .ok (.iconst 0, 1) := by decide +kernel
theorem dX6_declare_31 : decode cX6_declare 31 = .ok (.istore 4, 2) := by decide +kernel
theorem dX6_declare_33 : decode cX6_declare 33 = .ok (.iload 4, 2) := by decide +kernel
theorem dX6_declare_35 : decode cX6_declare 35 = .ok (.ifCond .ne 5, 3) := by decide +kernel
theorem dX6_declare_38 : decode cX6_declare 38 = .ok (.iconst (-1), 1) := by decide +kernel
theorem dX6_declare_39 : decode cX6_declare 39 = .ok (.ireturn, 1) := by decide +kernel
theorem dX6_declare_40 : decode cX6_declare 40 = .ok (.aload_n 0, 1) := by decide +kernel
theorem dX6_declare_41 : decode cX6_declare 41 = .ok (.getfield 10, 3) := by decide +kernel
theorem dX6_declare_44 : decode cX6_declare 44 = .ok (.invokevirtual 72, 3) := by decide +kernel
theorem dX6_declare_47 : decode cX6_declare 47 = .ok (.istore 5, 2) := by decide +kernel
theorem dX6_declare_49 : decode cX6_declare 49 = .ok (.iload 5, 2) := by decide +kernel
theorem dX6_declare_51 : decode cX6_declare 51 = .ok (.ifCond .eq 15, 3) := by decide +kernel
theorem dX6_declare_54 : decode cX6_declare 54 = .ok (.aload_n 0, 1) := by decide +kernel
theorem dX6_declare_55 : decode cX6_declare 55 = .ok (.getfield 22, 3) := by decide +kernel
theorem dX6_declare_58 : decode cX6_declare 58 = .ok (.iload 5, 2) := by decide +kernel
theorem dX6_declare_60 : decode cX6_declare 60 = .ok (.invokevirtual 76, 3) := by decide +kernel
theorem dX6_declare_63 : decode cX6_declare 63 = .ok (.ifCond .eq 6, 3) := by decide +kernel
theorem dX6_declare_66 : decode cX6_declare 66 = .ok (.bipush (-2), 2) := by decide +kernel
theorem dX6_declare_68 : decode cX6_declare 68 = .ok (.ireturn, 1) := by decide +kernel
theorem dX6_declare_69 : decode cX6_declare 69 = .ok (.aload_n 0, 1) := by decide +kernel
theorem dX6_declare_70 : decode cX6_declare 70 = .ok (.getfield 22, 3) := by decide +kernel
theorem dX6_declare_73 : decode cX6_declare 73 = .ok (.getfield 79, 3) := by decide +kernel
theorem dX6_declare_76 : decode cX6_declare 76 = .ok (.bipush 6, 2) := by decide +kernel
theorem dX6_declare_78 : decode cX6_declare 78 = .ok (.if_icmp .lt 6, 3) := by decide +kernel
theorem dX6_declare_81 : decode cX6_declare 81 = .ok (.bipush (-3), 2) := by decide +kernel
theorem dX6_declare_83 : decode cX6_declare 83 = .ok (.ireturn, 1) := by decide +kernel
theorem dX6_declare_84 : decode cX6_declare 84 = .ok (.aload_n 0, 1) := by decide +kernel
theorem dX6_declare_85 : decode cX6_declare 85 = .ok (.invokevirtual 82, 3) := by decide +kernel
theorem dX6_declare_88 : decode cX6_declare 88 = .ok (.aload_n 0, 1) := by decide +kernel
theorem dX6_declare_89 : decode cX6_declare 89 = .ok (.getfield 22, 3) := by decide +kernel
theorem dX6_declare_92 : decode cX6_declare 92 = .ok (.iload 5, 2) := by decide +kernel
theorem dX6_declare_94 : decode cX6_declare 94 = .ok (.iload_n 1, 1) := by decide +kernel
theorem dX6_declare_95 : decode cX6_declare 95 = .ok (.iload_n 2, 1) := by decide +kernel
theorem dX6_declare_96 : decode cX6_declare 96 = .ok (.iload_n 3, 1) := by decide +kernel
theorem dX6_declare_97 : decode cX6_declare 97 = .ok (.invokevirtual 85, 3) := by decide +kernel
theorem dX6_declare_100 : decode cX6_declare 100 = .ok (.ireturn, 1) := by decide +kernel
theorem dX6_remove_0 : decode cX6_remove 0 = .ok (.aload_n 0, 1) := by decide +kernel
theorem dX6_remove_1 : decode cX6_remove 1 = .ok (.getfield 22, 3) := by decide +kernel
theorem dX6_remove_4 : decode cX6_remove 4 = .ok (.iload_n 1, 1) := by decide +kernel
theorem dX6_remove_5 : decode cX6_remove 5 = .ok (.invokevirtual 89, 3) := by decide +kernel
theorem dX6_remove_8 : decode cX6_remove 8 = .ok (.ifCond .ne 5, 3) := by decide +kernel
theorem dX6_remove_11 : decode cX6_remove 11 = .ok (.iconst (-1), 1) := by decide +kernel
theorem dX6_remove_12 : decode cX6_remove 12 = .ok (.ireturn, 1) := by decide +kernel
theorem dX6_remove_13 : decode cX6_remove 13 = .ok (.aload_n 0, 1) := by decide +kernel
theorem dX6_remove_14 : decode cX6_remove 14 = .ok (.invokevirtual 82, 3) := by decide +kernel
theorem dX6_remove_17 : decode cX6_remove 17 = .ok (.aload_n 0, 1) := by decide +kernel
theorem dX6_remove_18 : decode cX6_remove 18 = .ok (.getfield 22, 3) := by decide +kernel
theorem dX6_remove_21 : decode cX6_remove 21 = .ok (.iload_n 1, 1) := by decide +kernel
theorem dX6_remove_22 : decode cX6_remove 22 = .ok (.invokevirtual 92, 3) := by decide +kernel
theorem dX6_remove_25 : decode cX6_remove 25 = .ok (.aload_n 0, 1) := by decide +kernel
theorem dX6_remove_26 : decode cX6_remove 26 = .ok (.getfield 22, 3) := by decide +kernel
theorem dX6_remove_29 : decode cX6_remove 29 = .ok (.getfield 79, 3) := by decide +kernel
theorem dX6_remove_32 : decode cX6_remove 32 = .ok (.ireturn, 1) := by decide +kernel
theorem dX6_set_0 : decode cX6_set 0 = .ok (.aload_n 0, 1) := by decide +kernel
theorem dX6_set_1 : decode cX6_set 1 = .ok (.getfield 22, 3) := by decide +kernel
theorem dX6_set_4 : decode cX6_set 4 = .ok (.iload_n 1, 1) := by decide +kernel
theorem dX6_set_5 : decode cX6_set 5 = .ok (.invokevirtual 89, 3) := by decide +kernel
theorem dX6_set_8 : decode cX6_set 8 = .ok (.ifCond .eq 19, 3) := by decide +kernel
theorem dX6_set_11 : decode cX6_set 11 = .ok (.aload_n 0, 1) := by decide +kernel
theorem dX6_set_12 : decode cX6_set 12 = .ok (.getfield 22, 3) := by decide +kernel
theorem dX6_set_15 : decode cX6_set 15 = .ok (.iload_n 1, 1) := by decide +kernel
theorem dX6_set_16 : decode cX6_set 16 = .ok (.invokevirtual 96, 3) := by decide +kernel
theorem dX6_set_19 : decode cX6_set 19 = .ok (.iload_n 2, 1) := by decide +kernel
theorem dX6_set_20 : decode cX6_set 20 = .ok (.iload_n 3, 1) := by decide +kernel
theorem dX6_set_21 : decode cX6_set 21 = .ok (.invokevirtual 100, 3) := by decide +kernel
theorem dX6_set_24 : decode cX6_set 24 = .ok (.ifCond .ne 5, 3) := by decide +kernel
theorem dX6_set_27 : decode cX6_set 27 = .ok (.iconst (-1), 1) := by decide +kernel
theorem dX6_set_28 : decode cX6_set 28 = .ok (.ireturn, 1) := by decide +kernel
theorem dX6_set_29 : decode cX6_set 29 = .ok (.aload_n 0, 1) := by decide +kernel
theorem dX6_set_30 : decode cX6_set 30 = .ok (.invokevirtual 82, 3) := by decide +kernel
theorem dX6_set_33 : decode cX6_set 33 = .ok (.aload_n 0, 1) := by decide +kernel
theorem dX6_set_34 : decode cX6_set 34 = .ok (.getfield 22, 3) := by decide +kernel
theorem dX6_set_37 : decode cX6_set 37 = .ok (.iload_n 1, 1) := by decide +kernel
theorem dX6_set_38 : decode cX6_set 38 = .ok (.invokevirtual 96, 3) := by decide +kernel
theorem dX6_set_41 : decode cX6_set 41 = .ok (.iload_n 2, 1) := by decide +kernel
theorem dX6_set_42 : decode cX6_set 42 = .ok (.iload_n 3, 1) := by decide +kernel
theorem dX6_set_43 : decode cX6_set 43 = .ok (.invokevirtual 106, 3) := by decide +kernel
theorem dX6_set_46 : decode cX6_set 46 = .ok (.ireturn, 1) := by decide +kernel
theorem dX6_move_0 : decode cX6_move 0 = .ok (.aload_n 0, 1) := by decide +kernel
theorem dX6_move_1 : decode cX6_move 1 = .ok (.getfield 22, 3) := by decide +kernel
theorem dX6_move_4 : decode cX6_move 4 = .ok (.iload_n 1, 1) := by decide +kernel
theorem dX6_move_5 : decode cX6_move 5 = .ok (.invokevirtual 89, 3) := by decide +kernel
theorem dX6_move_8 : decode cX6_move 8 = .ok (.ifCond .eq 14, 3) := by decide +kernel
theorem dX6_move_11 : decode cX6_move 11 = .ok (.aload_n 0, 1) := by decide +kernel
theorem dX6_move_12 : decode cX6_move 12 = .ok (.getfield 22, 3) := by decide +kernel
theorem dX6_move_15 : decode cX6_move 15 = .ok (.iload_n 2, 1) := by decide +kernel
theorem dX6_move_16 : decode cX6_move 16 = .ok (.invokevirtual 89, 3) := by decide +kernel
theorem dX6_move_19 : decode cX6_move 19 = .ok (.ifCond .ne 5, 3) := by decide +kernel
theorem dX6_move_22 : decode cX6_move 22 = .ok (.iconst (-1), 1) := by decide +kernel
theorem dX6_move_23 : decode cX6_move 23 = .ok (.ireturn, 1) := by decide +kernel
theorem dX6_move_24 : decode cX6_move 24 = .ok (.aload_n 0, 1) := by decide +kernel
theorem dX6_move_25 : decode cX6_move 25 = .ok (.invokevirtual 82, 3) := by decide +kernel
theorem dX6_move_28 : decode cX6_move 28 = .ok (.aload_n 0, 1) := by decide +kernel
theorem dX6_move_29 : decode cX6_move 29 = .ok (.getfield 22, 3) := by decide +kernel
theorem dX6_move_32 : decode cX6_move 32 = .ok (.iload_n 1, 1) := by decide +kernel
theorem dX6_move_33 : decode cX6_move 33 = .ok (.iload_n 2, 1) := by decide +kernel
theorem dX6_move_34 : decode cX6_move 34 = .ok (.invokevirtual 110, 3) := by decide +kernel
theorem dX6_move_37 : decode cX6_move 37 = .ok (.iload_n 2, 1) := by decide +kernel
theorem dX6_move_38 : decode cX6_move 38 = .ok (.ireturn, 1) := by decide +kernel
theorem dX6_setSeparator_0 : decode cX6_setSeparator 0 = .ok (.iload_n 1, 1) := by decide +kernel
theorem dX6_setSeparator_1 : decode cX6_setSeparator 1 = .ok (.ifCond .eq 17, 3) := by decide +kernel
theorem dX6_setSeparator_4 : decode cX6_setSeparator 4 = .ok (.iload_n 1, 1) := by decide +kernel
theorem dX6_setSeparator_5 : decode cX6_setSeparator 5 = .ok (.bipush 33, 2) := by decide +kernel
theorem dX6_setSeparator_7 : decode cX6_setSeparator 7 = .ok (.if_icmp .lt 9, 3) := by decide +kernel
theorem dX6_setSeparator_10 : decode cX6_setSeparator 10 = .ok (.iload_n 1, 1) := by decide +kernel
theorem dX6_setSeparator_11 : decode cX6_setSeparator 11 = .ok (.bipush 47, 2) := by decide +kernel
theorem dX6_setSeparator_13 : decode cX6_setSeparator 13 = .ok (.if_icmp .le 5, 3) := by decide +kernel
theorem dX6_setSeparator_16 : decode cX6_setSeparator 16 = .ok (.iconst (-1), 1) := by decide +kernel
theorem dX6_setSeparator_17 : decode cX6_setSeparator 17 = .ok (.ireturn, 1) := by decide +kernel
theorem dX6_setSeparator_18 : decode cX6_setSeparator 18 = .ok (.aload_n 0, 1) := by decide +kernel
theorem dX6_setSeparator_19 : decode cX6_setSeparator 19 = .ok (.invokevirtual 82, 3) := by decide +kernel
theorem dX6_setSeparator_22 : decode cX6_setSeparator 22 = .ok (.aload_n 0, 1) := by decide +kernel
theorem dX6_setSeparator_23 : decode cX6_setSeparator 23 = .ok (.getfield 22, 3) := by decide +kernel
theorem dX6_setSeparator_26 : decode cX6_setSeparator 26 = .ok (.getfield 114, 3) := by decide +kernel
theorem dX6_setSeparator_29 : decode cX6_setSeparator 29 = .ok (.istore_n 2, 1) := by decide +kernel
theorem dX6_setSeparator_30 : decode cX6_setSeparator 30 = .ok (.aload_n 0, 1) := by decide +kernel
theorem dX6_setSeparator_31 : decode cX6_setSeparator 31 = .ok (.getfield 22, 3) := by decide +kernel
theorem dX6_setSeparator_34 : decode cX6_setSeparator 34 = .ok (.iload_n 1, 1) := by decide +kernel
theorem dX6_setSeparator_35 : decode cX6_setSeparator 35 = .ok (.putfield 114, 3) := by decide +kernel
theorem dX6_setSeparator_38 : decode cX6_setSeparator 38 = .ok (.iload_n 2, 1) := by decide +kernel
theorem dX6_setSeparator_39 : decode cX6_setSeparator 39 = .ok (.ireturn, 1) := by decide +kernel
theorem dX6_rule_0 : decode cX6_rule 0 = .ok (.aload_n 0, 1) := by decide +kernel
theorem dX6_rule_1 : decode cX6_rule 1 = .ok (.getfield 22, 3) := by decide +kernel
theorem dX6_rule_4 : decode cX6_rule 4 = .ok (.iload_n 1, 1) := by decide +kernel
theorem dX6_rule_5 : decode cX6_rule 5 = .ok (.invokevirtual 89, 3) := by decide +kernel
theorem dX6_rule_8 : decode cX6_rule 8 = .ok (.ifCond .eq 28, 3) := by decide +kernel
theorem dX6_rule_11 : decode cX6_rule 11 = .ok (.aload_n 0, 1) := by decide +kernel
theorem dX6_rule_12 : decode cX6_rule 12 = .ok (.getfield 22, 3) := by decide +kernel
theorem dX6_rule_15 : decode cX6_rule 15 = .ok (.iload_n 2, 1) := by decide +kernel
theorem dX6_rule_16 : decode cX6_rule 16 = .ok (.invokevirtual 89, 3) := by decide +kernel
theorem dX6_rule_19 : decode cX6_rule 19 = .ok (.ifCond .eq 17, 3) := by decide +kernel
theorem dX6_rule_22 : decode cX6_rule 22 = .ok (.iload_n 1, 1) := by decide +kernel
theorem dX6_rule_23 : decode cX6_rule 23 = .ok (.iload_n 2, 1) := by decide +kernel
theorem dX6_rule_24 : decode cX6_rule 24 = .ok (.if_icmp .eq 12, 3) := by decide +kernel
theorem dX6_rule_27 : decode cX6_rule 27 = .ok (.iload_n 3, 1) := by decide +kernel
theorem dX6_rule_28 : decode cX6_rule 28 = .ok (.ifCond .lt 8, 3) := by decide +kernel
theorem dX6_rule_31 : decode cX6_rule 31 = .ok (.iload_n 3, 1) := by decide +kernel
theorem dX6_rule_32 : decode cX6_rule 32 = .ok (.iconst 1, 1) := by decide +kernel
theorem dX6_rule_33 : decode cX6_rule 33 = .ok (.if_icmp .le 5, 3) := by decide +kernel
theorem dX6_rule_36 : decode cX6_rule 36 = .ok (.iconst (-1), 1) := by decide +kernel
theorem dX6_rule_37 : decode cX6_rule 37 = .ok (.ireturn, 1) := by decide +kernel
theorem dX6_rule_38 : decode cX6_rule 38 = .ok (.aload_n 0, 1) := by decide +kernel
theorem dX6_rule_39 : decode cX6_rule 39 = .ok (.invokevirtual 82, 3) := by decide +kernel
theorem dX6_rule_42 : decode cX6_rule 42 = .ok (.aload_n 0, 1) := by decide +kernel
theorem dX6_rule_43 : decode cX6_rule 43 = .ok (.getfield 22, 3) := by decide +kernel
theorem dX6_rule_46 : decode cX6_rule 46 = .ok (.iload_n 1, 1) := by decide +kernel
theorem dX6_rule_47 : decode cX6_rule 47 = .ok (.invokevirtual 96, 3) := by decide +kernel
theorem dX6_rule_50 : decode cX6_rule 50 = .ok (.astore 4, 2) := by decide +kernel
theorem dX6_rule_52 : decode cX6_rule 52 = .ok (.aload 4, 2) := by decide +kernel
theorem dX6_rule_54 : decode cX6_rule 54 = .ok (.getfield 117, 3) := by decide +kernel
theorem dX6_rule_57 : decode cX6_rule 57 = .ok (.iload_n 2, 1) := by decide +kernel
theorem dX6_rule_58 : decode cX6_rule 58 = .ok (.invokestatic 120, 3) := by decide +kernel
theorem dX6_rule_61 : decode cX6_rule 61 = .ok (.istore 5, 2) := by decide +kernel
theorem dX6_rule_63 : decode cX6_rule 63 = .ok (.aload 4, 2) := by decide +kernel
theorem dX6_rule_65 : decode cX6_rule 65 = .ok (.aload 4, 2) := by decide +kernel
theorem dX6_rule_67 : decode cX6_rule 67 = .ok (.getfield 117, 3) := by decide +kernel
theorem dX6_rule_70 : decode cX6_rule 70 = .ok (.iload_n 2, 1) := by decide +kernel
theorem dX6_rule_71 : decode cX6_rule 71 = .ok (.iload_n 3, 1) := by decide +kernel
theorem dX6_rule_72 : decode cX6_rule 72 = .ok (.invokestatic 123, 3) := by decide +kernel
theorem dX6_rule_75 : decode cX6_rule 75 = .ok (.putfield 117, 3) := by decide +kernel
theorem dX6_rule_78 : decode cX6_rule 78 = .ok (.iload 5, 2) := by decide +kernel
theorem dX6_rule_80 : decode cX6_rule 80 = .ok (.ireturn, 1) := by decide +kernel
theorem dX6_undo_0 : decode cX6_undo 0 = .ok (.aload_n 0, 1) := by decide +kernel
theorem dX6_undo_1 : decode cX6_undo 1 = .ok (.getfield 29, 3) := by decide +kernel
theorem dX6_undo_4 : decode cX6_undo 4 = .ok (.getfield 127, 3) := by decide +kernel
theorem dX6_undo_7 : decode cX6_undo 7 = .ok (.ifCond .ne 6, 3) := by decide +kernel
theorem dX6_undo_10 : decode cX6_undo 10 = .ok (.bipush (-2), 2) := by decide +kernel
theorem dX6_undo_12 : decode cX6_undo 12 = .ok (.ireturn, 1) := by decide +kernel
theorem dX6_undo_13 : decode cX6_undo 13 = .ok (.aload_n 0, 1) := by decide +kernel
theorem dX6_undo_14 : decode cX6_undo 14 = .ok (.getfield 29, 3) := by decide +kernel
theorem dX6_undo_17 : decode cX6_undo 17 = .ok (.aload_n 0, 1) := by decide +kernel
theorem dX6_undo_18 : decode cX6_undo 18 = .ok (.getfield 22, 3) := by decide +kernel
theorem dX6_undo_21 : decode cX6_undo 21 = .ok (.invokevirtual 128, 3) := by decide +kernel
theorem dX6_undo_24 : decode cX6_undo 24 = .ok (.aload_n 0, 1) := by decide +kernel
theorem dX6_undo_25 : decode cX6_undo 25 = .ok (.invokevirtual 132, 3) := by decide +kernel
theorem dX6_undo_28 : decode cX6_undo 28 = .ok (.aload_n 0, 1) := by decide +kernel
theorem dX6_undo_29 : decode cX6_undo 29 = .ok (.getfield 29, 3) := by decide +kernel
theorem dX6_undo_32 : decode cX6_undo 32 = .ok (.getfield 127, 3) := by decide +kernel
theorem dX6_undo_35 : decode cX6_undo 35 = .ok (.ireturn, 1) := by decide +kernel
theorem dX6_beginChange_0 : decode cX6_beginChange 0 = .ok (.aload_n 0, 1) := by decide +kernel
theorem dX6_beginChange_1 : decode cX6_beginChange 1 = .ok (.getfield 29, 3) := by decide +kernel
theorem dX6_beginChange_4 : decode cX6_beginChange 4 = .ok (.aload_n 0, 1) := by decide +kernel
theorem dX6_beginChange_5 : decode cX6_beginChange 5 = .ok (.getfield 22, 3) := by decide +kernel
theorem dX6_beginChange_8 : decode cX6_beginChange 8 = .ok (.invokevirtual 135, 3) := by decide +kernel
theorem dX6_beginChange_11 : decode cX6_beginChange 11 = .ok (.aload_n 0, 1) := by decide +kernel
theorem dX6_beginChange_12 : decode cX6_beginChange 12 = .ok (.invokevirtual 132, 3) := by decide +kernel
theorem dX6_beginChange_15 : decode cX6_beginChange 15 = .ok (.return_, 1) := by decide +kernel
theorem dX6_forgetTables_0 : decode cX6_forgetTables 0 = .ok (.aload_n 0, 1) := by decide +kernel
theorem dX6_forgetTables_1 : decode cX6_forgetTables 1 = .ok (.getfield 44, 3) := by decide +kernel
theorem dX6_forgetTables_4 : decode cX6_forgetTables 4 = .ok (.invokevirtual 59, 3) := by decide +kernel
theorem dX6_forgetTables_7 : decode cX6_forgetTables 7 = .ok (.aload_n 0, 1) := by decide +kernel
theorem dX6_forgetTables_8 : decode cX6_forgetTables 8 = .ok (.getfield 51, 3) := by decide +kernel
theorem dX6_forgetTables_11 : decode cX6_forgetTables 11 = .ok (.invokevirtual 138, 3) := by decide +kernel
theorem dX6_forgetTables_14 : decode cX6_forgetTables 14 = .ok (.return_, 1) := by decide +kernel
theorem dX6_told_0 : decode cX6_told 0 = .ok (.iload_n 1, 1) := by decide +kernel
theorem dX6_told_1 : decode cX6_told 1 = .ok (.tableswitch 111 0 7 #[47, 55, 63, 71, 79, 87, 95, 103], 47) := by decide +kernel
theorem dX6_told_48 : decode cX6_told 48 = .ok (.aload_n 0, 1) := by decide +kernel
theorem dX6_told_49 : decode cX6_told 49 = .ok (.getfield 22, 3) := by decide +kernel
theorem dX6_told_52 : decode cX6_told 52 = .ok (.getfield 79, 3) := by decide +kernel
theorem dX6_told_55 : decode cX6_told 55 = .ok (.ireturn, 1) := by decide +kernel
theorem dX6_told_56 : decode cX6_told 56 = .ok (.aload_n 0, 1) := by decide +kernel
theorem dX6_told_57 : decode cX6_told 57 = .ok (.getfield 22, 3) := by decide +kernel
theorem dX6_told_60 : decode cX6_told 60 = .ok (.getfield 114, 3) := by decide +kernel
theorem dX6_told_63 : decode cX6_told 63 = .ok (.ireturn, 1) := by decide +kernel
theorem dX6_told_64 : decode cX6_told 64 = .ok (.aload_n 0, 1) := by decide +kernel
theorem dX6_told_65 : decode cX6_told 65 = .ok (.getfield 22, 3) := by decide +kernel
theorem dX6_told_68 : decode cX6_told 68 = .ok (.invokevirtual 139, 3) := by decide +kernel
theorem dX6_told_71 : decode cX6_told 71 = .ok (.ireturn, 1) := by decide +kernel
theorem dX6_told_72 : decode cX6_told 72 = .ok (.aload_n 0, 1) := by decide +kernel
theorem dX6_told_73 : decode cX6_told 73 = .ok (.getfield 22, 3) := by decide +kernel
theorem dX6_told_76 : decode cX6_told 76 = .ok (.invokevirtual 142, 3) := by decide +kernel
theorem dX6_told_79 : decode cX6_told 79 = .ok (.ireturn, 1) := by decide +kernel
theorem dX6_told_80 : decode cX6_told 80 = .ok (.aload_n 0, 1) := by decide +kernel
theorem dX6_told_81 : decode cX6_told 81 = .ok (.getfield 10, 3) := by decide +kernel
theorem dX6_told_84 : decode cX6_told 84 = .ok (.getfield 62, 3) := by decide +kernel
theorem dX6_told_87 : decode cX6_told 87 = .ok (.ireturn, 1) := by decide +kernel
theorem dX6_told_88 : decode cX6_told 88 = .ok (.aload_n 0, 1) := by decide +kernel
theorem dX6_told_89 : decode cX6_told 89 = .ok (.getfield 29, 3) := by decide +kernel
theorem dX6_told_92 : decode cX6_told 92 = .ok (.getfield 127, 3) := by decide +kernel
theorem dX6_told_95 : decode cX6_told 95 = .ok (.ireturn, 1) := by decide +kernel
theorem dX6_told_96 : decode cX6_told 96 = .ok (.aload_n 0, 1) := by decide +kernel
theorem dX6_told_97 : decode cX6_told 97 = .ok (.getfield 22, 3) := by decide +kernel
theorem dX6_told_100 : decode cX6_told 100 = .ok (.invokevirtual 145, 3) := by decide +kernel
theorem dX6_told_103 : decode cX6_told 103 = .ok (.ireturn, 1) := by decide +kernel
theorem dX6_told_104 : decode cX6_told 104 = .ok (.aload_n 0, 1) := by decide +kernel
theorem dX6_told_105 : decode cX6_told 105 = .ok (.getfield 22, 3) := by decide +kernel
theorem dX6_told_108 : decode cX6_told 108 = .ok (.invokevirtual 148, 3) := by decide +kernel
theorem dX6_told_111 : decode cX6_told 111 = .ok (.ireturn, 1) := by decide +kernel
theorem dX6_told_112 : decode cX6_told 112 = .ok (.iconst (-1), 1) := by decide +kernel
theorem dX6_told_113 : decode cX6_told 113 = .ok (.ireturn, 1) := by decide +kernel
theorem dX6_member_0 : decode cX6_member 0 = .ok (.aload_n 0, 1) := by decide +kernel
theorem dX6_member_1 : decode cX6_member 1 = .ok (.getfield 22, 3) := by decide +kernel
theorem dX6_member_4 : decode cX6_member 4 = .ok (.iload_n 1, 1) := by decide +kernel
theorem dX6_member_5 : decode cX6_member 5 = .ok (.invokevirtual 89, 3) := by decide +kernel
theorem dX6_member_8 : decode cX6_member 8 = .ok (.ifCond .eq 13, 3) := by decide +kernel
theorem dX6_member_11 : decode cX6_member 11 = .ok (.iload_n 2, 1) := by decide +kernel
theorem dX6_member_12 : decode cX6_member 12 = .ok (.ifCond .lt 9, 3) := by decide +kernel
theorem dX6_member_15 : decode cX6_member 15 = .ok (.iload_n 2, 1) := by decide +kernel
theorem dX6_member_16 : decode cX6_member 16 = .ok (.bipush 9, 2) := by decide +kernel
theorem dX6_member_18 : decode cX6_member 18 = .ok (.if_icmp .le 5, 3) := by decide +kernel
theorem dX6_member_21 : decode cX6_member 21 = .ok (.iconst (-1), 1) := by decide +kernel
theorem dX6_member_22 : decode cX6_member 22 = .ok (.ireturn, 1) := by decide +kernel
theorem dX6_member_23 : decode cX6_member 23 = .ok (.aload_n 0, 1) := by decide +kernel
theorem dX6_member_24 : decode cX6_member 24 = .ok (.getfield 22, 3) := by decide +kernel
theorem dX6_member_27 : decode cX6_member 27 = .ok (.iload_n 1, 1) := by decide +kernel
theorem dX6_member_28 : decode cX6_member 28 = .ok (.invokevirtual 96, 3) := by decide +kernel
theorem dX6_member_31 : decode cX6_member 31 = .ok (.astore_n 3, 1) := by decide +kernel
theorem dX6_member_32 : decode cX6_member 32 = .ok (.iload_n 2, 1) := by decide +kernel
theorem dX6_member_33 : decode cX6_member 33 = .ok (.tableswitch 66 4 9 #[39, 44, 44, 44, 52, 57], 39) := by decide +kernel
theorem dX6_member_72 : decode cX6_member 72 = .ok (.aload_n 3, 1) := by decide +kernel
theorem dX6_member_73 : decode cX6_member 73 = .ok (.invokevirtual 151, 3) := by decide +kernel
theorem dX6_member_76 : decode cX6_member 76 = .ok (.ireturn, 1) := by decide +kernel
theorem dX6_member_77 : decode cX6_member 77 = .ok (.aload_n 3, 1) := by decide +kernel
theorem dX6_member_78 : decode cX6_member 78 = .ok (.iload_n 2, 1) := by decide +kernel
theorem dX6_member_79 : decode cX6_member 79 = .ok (.iconst 5, 1) := by decide +kernel
theorem dX6_member_80 : decode cX6_member 80 = .ok (.isub, 1) := by decide +kernel
theorem dX6_member_81 : decode cX6_member 81 = .ok (.invokevirtual 154, 3) := by decide +kernel
theorem dX6_member_84 : decode cX6_member 84 = .ok (.ireturn, 1) := by decide +kernel
theorem dX6_member_85 : decode cX6_member 85 = .ok (.aload_n 3, 1) := by decide +kernel
theorem dX6_member_86 : decode cX6_member 86 = .ok (.getfield 117, 3) := by decide +kernel
theorem dX6_member_89 : decode cX6_member 89 = .ok (.ireturn, 1) := by decide +kernel
theorem dX6_member_90 : decode cX6_member 90 = .ok (.aload_n 0, 1) := by decide +kernel
theorem dX6_member_91 : decode cX6_member 91 = .ok (.getfield 22, 3) := by decide +kernel
theorem dX6_member_94 : decode cX6_member 94 = .ok (.iload_n 1, 1) := by decide +kernel
theorem dX6_member_95 : decode cX6_member 95 = .ok (.invokevirtual 158, 3) := by decide +kernel
theorem dX6_member_98 : decode cX6_member 98 = .ok (.ireturn, 1) := by decide +kernel
theorem dX6_member_99 : decode cX6_member 99 = .ok (.aload_n 3, 1) := by decide +kernel
theorem dX6_member_100 : decode cX6_member 100 = .ok (.iload_n 2, 1) := by decide +kernel
theorem dX6_member_101 : decode cX6_member 101 = .ok (.invokevirtual 161, 3) := by decide +kernel
theorem dX6_member_104 : decode cX6_member 104 = .ok (.ireturn, 1) := by decide +kernel
theorem dX6_fault_0 : decode cX6_fault 0 = .ok (.aload_n 0, 1) := by decide +kernel
theorem dX6_fault_1 : decode cX6_fault 1 = .ok (.getfield 44, 3) := by decide +kernel
theorem dX6_fault_4 : decode cX6_fault 4 = .ok (.aload_n 0, 1) := by decide +kernel
theorem dX6_fault_5 : decode cX6_fault 5 = .ok (.getfield 22, 3) := by decide +kernel
theorem dX6_fault_8 : decode cX6_fault 8 = .ok (.aload_n 0, 1) := by decide +kernel
theorem dX6_fault_9 : decode cX6_fault 9 = .ok (.getfield 10, 3) := by decide +kernel
theorem dX6_fault_12 : decode cX6_fault 12 = .ok (.invokevirtual 164, 3) := by decide +kernel
theorem dX6_fault_15 : decode cX6_fault 15 = .ok (.aload_n 0, 1) := by decide +kernel
theorem dX6_fault_16 : decode cX6_fault 16 = .ok (.getfield 44, 3) := by decide +kernel
theorem dX6_fault_19 : decode cX6_fault 19 = .ok (.invokevirtual 168, 3) := by decide +kernel
theorem dX6_fault_22 : decode cX6_fault 22 = .ok (.ifCond .eq 8, 3) := by decide +kernel
theorem dX6_fault_25 : decode cX6_fault 25 = .ok (.bipush (-9), 2) := by decide +kernel
theorem dX6_fault_27 : decode cX6_fault 27 = .ok (.goto 18, 3) := by decide +kernel
theorem dX6_fault_30 : decode cX6_fault 30 = .ok (.aload_n 0, 1) := by decide +kernel
theorem dX6_fault_31 : decode cX6_fault 31 = .ok (.getfield 44, 3) := by decide +kernel
theorem dX6_fault_34 : decode cX6_fault 34 = .ok (.aload_n 0, 1) := by decide +kernel
theorem dX6_fault_35 : decode cX6_fault 35 = .ok (.getfield 22, 3) := by decide +kernel
theorem dX6_fault_38 : decode cX6_fault 38 = .ok (.aload_n 0, 1) := by decide +kernel
theorem dX6_fault_39 : decode cX6_fault 39 = .ok (.getfield 10, 3) := by decide +kernel
theorem dX6_fault_42 : decode cX6_fault 42 = .ok (.invokevirtual 172, 3) := by decide +kernel
theorem dX6_fault_45 : decode cX6_fault 45 = .ok (.ireturn, 1) := by decide +kernel
theorem dX6_readings_0 : decode cX6_readings 0 = .ok (.aload_n 0, 1) := by decide +kernel
theorem dX6_readings_1 : decode cX6_readings 1 = .ok (.getfield 44, 3) := by decide +kernel
theorem dX6_readings_4 : decode cX6_readings 4 = .ok (.aload_n 0, 1) := by decide +kernel
theorem dX6_readings_5 : decode cX6_readings 5 = .ok (.getfield 22, 3) := by decide +kernel
theorem dX6_readings_8 : decode cX6_readings 8 = .ok (.aload_n 0, 1) := by decide +kernel
theorem dX6_readings_9 : decode cX6_readings 9 = .ok (.getfield 10, 3) := by decide +kernel
theorem dX6_readings_12 : decode cX6_readings 12 = .ok (.invokevirtual 164, 3) := by decide +kernel
theorem dX6_readings_15 : decode cX6_readings 15 = .ok (.aload_n 0, 1) := by decide +kernel
theorem dX6_readings_16 : decode cX6_readings 16 = .ok (.getfield 44, 3) := by decide +kernel
theorem dX6_readings_19 : decode cX6_readings 19 = .ok (.iconst 0, 1) := by decide +kernel
theorem dX6_readings_20 : decode cX6_readings 20 = .ok (.invokevirtual 176, 3) := by decide +kernel
theorem dX6_readings_23 : decode cX6_readings 23 = .ok (.ldc2_w 180, 3) := by decide +kernel
theorem dX6_readings_26 : decode cX6_readings 26 = .ok (.invokestatic 182, 3) := by decide +kernel
theorem dX6_readings_29 : decode cX6_readings 29 = .ok (.l2i, 1) := by decide +kernel
theorem dX6_readings_30 : decode cX6_readings 30 = .ok (.ireturn, 1) := by decide +kernel
theorem dX6_occurrence_0 : decode cX6_occurrence 0 = .ok (.iload_n 1, 1) := by decide +kernel
theorem dX6_occurrence_1 : decode cX6_occurrence 1 = .ok (.ifCond .lt 12, 3) := by decide +kernel
theorem dX6_occurrence_4 : decode cX6_occurrence 4 = .ok (.iload_n 2, 1) := by decide +kernel
theorem dX6_occurrence_5 : decode cX6_occurrence 5 = .ok (.ifCond .lt 8, 3) := by decide +kernel
theorem dX6_occurrence_8 : decode cX6_occurrence 8 = .ok (.iload_n 2, 1) := by decide +kernel
theorem dX6_occurrence_9 : decode cX6_occurrence 9 = .ok (.iconst 2, 1) := by decide +kernel
theorem dX6_occurrence_10 : decode cX6_occurrence 10 = .ok (.if_icmp .le 5, 3) := by decide +kernel
theorem dX6_occurrence_13 : decode cX6_occurrence 13 = .ok (.iconst (-1), 1) := by decide +kernel
theorem dX6_occurrence_14 : decode cX6_occurrence 14 = .ok (.ireturn, 1) := by decide +kernel
theorem dX6_occurrence_15 : decode cX6_occurrence 15 = .ok (.aload_n 0, 1) := by decide +kernel
theorem dX6_occurrence_16 : decode cX6_occurrence 16 = .ok (.getfield 44, 3) := by decide +kernel
theorem dX6_occurrence_19 : decode cX6_occurrence 19 = .ok (.aload_n 0, 1) := by decide +kernel
theorem dX6_occurrence_20 : decode cX6_occurrence 20 = .ok (.getfield 22, 3) := by decide +kernel
theorem dX6_occurrence_23 : decode cX6_occurrence 23 = .ok (.aload_n 0, 1) := by decide +kernel
theorem dX6_occurrence_24 : decode cX6_occurrence 24 = .ok (.getfield 10, 3) := by decide +kernel
theorem dX6_occurrence_27 : decode cX6_occurrence 27 = .ok (.invokevirtual 164, 3) := by decide +kernel
theorem dX6_occurrence_30 : decode cX6_occurrence 30 = .ok (.aload_n 0, 1) := by decide +kernel
theorem dX6_occurrence_31 : decode cX6_occurrence 31 = .ok (.getfield 44, 3) := by decide +kernel
theorem dX6_occurrence_34 : decode cX6_occurrence 34 = .ok (.invokevirtual 168, 3) := by decide +kernel
theorem dX6_occurrence_37 : decode cX6_occurrence 37 = .ok (.ifCond .ne 6, 3) := by decide +kernel
theorem dX6_occurrence_40 : decode cX6_occurrence 40 = .ok (.bipush (-2), 2) := by decide +kernel
theorem dX6_occurrence_42 : decode cX6_occurrence 42 = .ok (.ireturn, 1) := by decide +kernel
theorem dX6_occurrence_43 : decode cX6_occurrence 43 = .ok (.iload_n 2, 1) := by decide +kernel
theorem dX6_occurrence_44 : decode cX6_occurrence 44 = .ok (.lookupswitch 46 #[(0, 28), (1, 37)], 28) := by decide +kernel
theorem dX6_occurrence_72 : decode cX6_occurrence 72 = .ok (.aload_n 0, 1) := by decide +kernel
theorem dX6_occurrence_73 : decode cX6_occurrence 73 = .ok (.getfield 44, 3) := by decide +kernel
theorem dX6_occurrence_76 : decode cX6_occurrence 76 = .ok (.iload_n 1, 1) := by decide +kernel
theorem dX6_occurrence_77 : decode cX6_occurrence 77 = .ok (.invokevirtual 188, 3) := by decide +kernel
theorem dX6_occurrence_80 : decode cX6_occurrence 80 = .ok (.ireturn, 1) := by decide +kernel
theorem dX6_occurrence_81 : decode cX6_occurrence 81 = .ok (.aload_n 0, 1) := by decide +kernel
theorem dX6_occurrence_82 : decode cX6_occurrence 82 = .ok (.getfield 44, 3) := by decide +kernel
theorem dX6_occurrence_85 : decode cX6_occurrence 85 = .ok (.iload_n 1, 1) := by decide +kernel
theorem dX6_occurrence_86 : decode cX6_occurrence 86 = .ok (.invokevirtual 191, 3) := by decide +kernel
theorem dX6_occurrence_89 : decode cX6_occurrence 89 = .ok (.ireturn, 1) := by decide +kernel
theorem dX6_occurrence_90 : decode cX6_occurrence 90 = .ok (.aload_n 0, 1) := by decide +kernel
theorem dX6_occurrence_91 : decode cX6_occurrence 91 = .ok (.getfield 44, 3) := by decide +kernel
theorem dX6_occurrence_94 : decode cX6_occurrence 94 = .ok (.iload_n 1, 1) := by decide +kernel
theorem dX6_occurrence_95 : decode cX6_occurrence 95 = .ok (.invokevirtual 194, 3) := by decide +kernel
theorem dX6_occurrence_98 : decode cX6_occurrence 98 = .ok (.ireturn, 1) := by decide +kernel
theorem dX6_value_0 : decode cX6_value 0 = .ok (.aload_n 0, 1) := by decide +kernel
theorem dX6_value_1 : decode cX6_value 1 = .ok (.getfield 22, 3) := by decide +kernel
theorem dX6_value_4 : decode cX6_value 4 = .ok (.iload_n 1, 1) := by decide +kernel
theorem dX6_value_5 : decode cX6_value 5 = .ok (.invokevirtual 89, 3) := by decide +kernel
theorem dX6_value_8 : decode cX6_value 8 = .ok (.ifCond .eq 7, 3) := by decide +kernel
theorem dX6_value_11 : decode cX6_value 11 = .ok (.iload_n 2, 1) := by decide +kernel
theorem dX6_value_12 : decode cX6_value 12 = .ok (.ifCond .ge 5, 3) := by decide +kernel
theorem dX6_value_15 : decode cX6_value 15 = .ok (.iconst (-1), 1) := by decide +kernel
theorem dX6_value_16 : decode cX6_value 16 = .ok (.ireturn, 1) := by decide +kernel
theorem dX6_value_17 : decode cX6_value 17 = .ok (.aload_n 0, 1) := by decide +kernel
theorem dX6_value_18 : decode cX6_value 18 = .ok (.getfield 44, 3) := by decide +kernel
theorem dX6_value_21 : decode cX6_value 21 = .ok (.aload_n 0, 1) := by decide +kernel
theorem dX6_value_22 : decode cX6_value 22 = .ok (.getfield 22, 3) := by decide +kernel
theorem dX6_value_25 : decode cX6_value 25 = .ok (.aload_n 0, 1) := by decide +kernel
theorem dX6_value_26 : decode cX6_value 26 = .ok (.getfield 10, 3) := by decide +kernel
theorem dX6_value_29 : decode cX6_value 29 = .ok (.invokevirtual 164, 3) := by decide +kernel
theorem dX6_value_32 : decode cX6_value 32 = .ok (.aload_n 0, 1) := by decide +kernel
theorem dX6_value_33 : decode cX6_value 33 = .ok (.getfield 44, 3) := by decide +kernel
theorem dX6_value_36 : decode cX6_value 36 = .ok (.invokevirtual 168, 3) := by decide +kernel
theorem dX6_value_39 : decode cX6_value 39 = .ok (.ifCond .ne 6, 3) := by decide +kernel
theorem dX6_value_42 : decode cX6_value 42 = .ok (.bipush (-2), 2) := by decide +kernel
theorem dX6_value_44 : decode cX6_value 44 = .ok (.ireturn, 1) := by decide +kernel
theorem dX6_value_45 : decode cX6_value 45 = .ok (.iconst 0, 1) := by decide +kernel
theorem dX6_value_46 : decode cX6_value 46 = .ok (.istore_n 3, 1) := by decide +kernel
theorem dX6_value_47 : decode cX6_value 47 = .ok (.iconst 0, 1) := by decide +kernel
theorem dX6_value_48 : decode cX6_value 48 = .ok (.istore 4, 2) := by decide +kernel
theorem dX6_value_50 : decode cX6_value 50 = .ok (.iload 4, 2) := by decide +kernel
theorem dX6_value_52 : decode cX6_value 52 = .ok (.aload_n 0, 1) := by decide +kernel
theorem dX6_value_53 : decode cX6_value 53 = .ok (.getfield 44, 3) := by decide +kernel
theorem dX6_value_56 : decode cX6_value 56 = .ok (.getfield 197, 3) := by decide +kernel
theorem dX6_value_59 : decode cX6_value 59 = .ok (.if_icmp .ge 40, 3) := by decide +kernel
theorem dX6_value_62 : decode cX6_value 62 = .ok (.aload_n 0, 1) := by decide +kernel
theorem dX6_value_63 : decode cX6_value 63 = .ok (.getfield 44, 3) := by decide +kernel
theorem dX6_value_66 : decode cX6_value 66 = .ok (.iload 4, 2) := by decide +kernel
theorem dX6_value_68 : decode cX6_value 68 = .ok (.invokevirtual 188, 3) := by decide +kernel
theorem dX6_value_71 : decode cX6_value 71 = .ok (.iload_n 1, 1) := by decide +kernel
theorem dX6_value_72 : decode cX6_value 72 = .ok (.if_icmp .ne 21, 3) := by decide +kernel
theorem dX6_value_75 : decode cX6_value 75 = .ok (.iload_n 3, 1) := by decide +kernel
theorem dX6_value_76 : decode cX6_value 76 = .ok (.iload_n 2, 1) := by decide +kernel
theorem dX6_value_77 : decode cX6_value 77 = .ok (.if_icmp .ne 13, 3) := by decide +kernel
theorem dX6_value_80 : decode cX6_value 80 = .ok (.aload_n 0, 1) := by decide +kernel
theorem dX6_value_81 : decode cX6_value 81 = .ok (.getfield 44, 3) := by decide +kernel
theorem dX6_value_84 : decode cX6_value 84 = .ok (.iload 4, 2) := by decide +kernel
theorem dX6_value_86 : decode cX6_value 86 = .ok (.invokevirtual 194, 3) := by decide +kernel
theorem dX6_value_89 : decode cX6_value 89 = .ok (.ireturn, 1) := by decide +kernel
theorem dX6_value_90 : decode cX6_value 90 = .ok (.iinc 3 1, 3) := by decide +kernel
theorem dX6_value_93 : decode cX6_value 93 = .ok (.iinc 4 1, 3) := by decide +kernel
theorem dX6_value_96 : decode cX6_value 96 = .ok (.goto (-46), 3) := by decide +kernel
theorem dX6_value_99 : decode cX6_value 99 = .ok (.iload_n 3, 1) := by decide +kernel
theorem dX6_value_100 : decode cX6_value 100 = .ok (.ifCond .ne 21, 3) := by decide +kernel
theorem dX6_value_103 : decode cX6_value 103 = .ok (.iload_n 2, 1) := by decide +kernel
theorem dX6_value_104 : decode cX6_value 104 = .ok (.ifCond .ne 17, 3) := by decide +kernel
theorem dX6_value_107 : decode cX6_value 107 = .ok (.aload_n 0, 1) := by decide +kernel
theorem dX6_value_108 : decode cX6_value 108 = .ok (.getfield 22, 3) := by decide +kernel
theorem dX6_value_111 : decode cX6_value 111 = .ok (.iload_n 1, 1) := by decide +kernel
theorem dX6_value_112 : decode cX6_value 112 = .ok (.invokevirtual 96, 3) := by decide +kernel
theorem dX6_value_115 : decode cX6_value 115 = .ok (.getfield 198, 3) := by decide +kernel
theorem dX6_value_118 : decode cX6_value 118 = .ok (.goto 5, 3) := by decide +kernel
theorem dX6_value_121 : decode cX6_value 121 = .ok (.bipush (-9), 2) := by decide +kernel
theorem dX6_value_123 : decode cX6_value 123 = .ok (.ireturn, 1) := by decide +kernel
theorem dX6_next_0 : decode cX6_next 0 = .ok (.aload_n 0, 1) := by decide +kernel
theorem dX6_next_1 : decode cX6_next 1 = .ok (.getfield 44, 3) := by decide +kernel
theorem dX6_next_4 : decode cX6_next 4 = .ok (.aload_n 0, 1) := by decide +kernel
theorem dX6_next_5 : decode cX6_next 5 = .ok (.getfield 22, 3) := by decide +kernel
theorem dX6_next_8 : decode cX6_next 8 = .ok (.aload_n 0, 1) := by decide +kernel
theorem dX6_next_9 : decode cX6_next 9 = .ok (.getfield 10, 3) := by decide +kernel
theorem dX6_next_12 : decode cX6_next 12 = .ok (.invokevirtual 164, 3) := by decide +kernel
theorem dX6_next_15 : decode cX6_next 15 = .ok (.aload_n 0, 1) := by decide +kernel
theorem dX6_next_16 : decode cX6_next 16 = .ok (.getfield 44, 3) := by decide +kernel
theorem dX6_next_19 : decode cX6_next 19 = .ok (.aload_n 0, 1) := by decide +kernel
theorem dX6_next_20 : decode cX6_next 20 = .ok (.getfield 22, 3) := by decide +kernel
theorem dX6_next_23 : decode cX6_next 23 = .ok (.aload_n 0, 1) := by decide +kernel
theorem dX6_next_24 : decode cX6_next 24 = .ok (.getfield 10, 3) := by decide +kernel
theorem dX6_next_27 : decode cX6_next 27 = .ok (.invokevirtual 201, 3) := by decide +kernel
theorem dX6_next_30 : decode cX6_next 30 = .ok (.ireturn, 1) := by decide +kernel
theorem dX6_normal_0 : decode cX6_normal 0 = .ok (.iload_n 1, 1) := by decide +kernel
theorem dX6_normal_1 : decode cX6_normal 1 = .ok (.ifCond .ge 5, 3) := by decide +kernel
theorem dX6_normal_4 : decode cX6_normal 4 = .ok (.iconst (-1), 1) := by decide +kernel
theorem dX6_normal_5 : decode cX6_normal 5 = .ok (.ireturn, 1) := by decide +kernel
theorem dX6_normal_6 : decode cX6_normal 6 = .ok (.aload_n 0, 1) := by decide +kernel
theorem dX6_normal_7 : decode cX6_normal 7 = .ok (.getfield 44, 3) := by decide +kernel
theorem dX6_normal_10 : decode cX6_normal 10 = .ok (.aload_n 0, 1) := by decide +kernel
theorem dX6_normal_11 : decode cX6_normal 11 = .ok (.getfield 22, 3) := by decide +kernel
theorem dX6_normal_14 : decode cX6_normal 14 = .ok (.aload_n 0, 1) := by decide +kernel
theorem dX6_normal_15 : decode cX6_normal 15 = .ok (.getfield 10, 3) := by decide +kernel
theorem dX6_normal_18 : decode cX6_normal 18 = .ok (.invokevirtual 164, 3) := by decide +kernel
theorem dX6_normal_21 : decode cX6_normal 21 = .ok (.aload_n 0, 1) := by decide +kernel
theorem dX6_normal_22 : decode cX6_normal 22 = .ok (.getfield 44, 3) := by decide +kernel
theorem dX6_normal_25 : decode cX6_normal 25 = .ok (.invokevirtual 168, 3) := by decide +kernel
theorem dX6_normal_28 : decode cX6_normal 28 = .ok (.ifCond .ne 6, 3) := by decide +kernel
theorem dX6_normal_31 : decode cX6_normal 31 = .ok (.bipush (-2), 2) := by decide +kernel
theorem dX6_normal_33 : decode cX6_normal 33 = .ok (.ireturn, 1) := by decide +kernel
theorem dX6_normal_34 : decode cX6_normal 34 = .ok (.aload_n 0, 1) := by decide +kernel
theorem dX6_normal_35 : decode cX6_normal 35 = .ok (.invokevirtual 204, 3) := by decide +kernel
theorem dX6_normal_38 : decode cX6_normal 38 = .ok (.aload_n 0, 1) := by decide +kernel
theorem dX6_normal_39 : decode cX6_normal 39 = .ok (.getfield 16, 3) := by decide +kernel
theorem dX6_normal_42 : decode cX6_normal 42 = .ok (.iload_n 1, 1) := by decide +kernel
theorem dX6_normal_43 : decode cX6_normal 43 = .ok (.invokevirtual 207, 3) := by decide +kernel
theorem dX6_normal_46 : decode cX6_normal 46 = .ok (.ireturn, 1) := by decide +kernel
theorem dX6_formNormal_0 : decode cX6_formNormal 0 = .ok (.aload_n 0, 1) := by decide +kernel
theorem dX6_formNormal_1 : decode cX6_formNormal 1 = .ok (.getfield 16, 3) := by decide +kernel
theorem dX6_formNormal_4 : decode cX6_formNormal 4 = .ok (.invokevirtual 66, 3) := by decide +kernel
theorem dX6_formNormal_7 : decode cX6_formNormal 7 = .ok (.iconst 0, 1) := by decide +kernel
theorem dX6_formNormal_8 : decode cX6_formNormal 8 = .ok (.istore_n 1, 1) := by decide +kernel
theorem dX6_formNormal_9 : decode cX6_formNormal 9 = .ok (.iload_n 1, 1) := by decide +kernel
theorem dX6_formNormal_10 : decode cX6_formNormal 10 = .ok (.aload_n 0, 1) := by decide +kernel
theorem dX6_formNormal_11 : decode cX6_formNormal 11 = .ok (.getfield 22, 3) := by decide +kernel
theorem dX6_formNormal_14 : decode cX6_formNormal 14 = .ok (.getfield 79, 3) := by decide +kernel
theorem dX6_formNormal_17 : decode cX6_formNormal 17 = .ok (.if_icmp .ge 98, 3) := by decide +kernel
theorem dX6_formNormal_20 : decode cX6_formNormal 20 = .ok (.iconst 0, 1) := by decide +kernel
theorem dX6_formNormal_21 : decode cX6_formNormal 21 = .ok (.istore_n 2, 1) := by decide +kernel
theorem dX6_formNormal_22 : decode cX6_formNormal 22 = .ok (.iload_n 2, 1) := by decide +kernel
theorem dX6_formNormal_23 : decode cX6_formNormal 23 = .ok (.aload_n 0, 1) := by decide +kernel
theorem dX6_formNormal_24 : decode cX6_formNormal 24 = .ok (.getfield 44, 3) := by decide +kernel
theorem dX6_formNormal_27 : decode cX6_formNormal 27 = .ok (.getfield 197, 3) := by decide +kernel
theorem dX6_formNormal_30 : decode cX6_formNormal 30 = .ok (.if_icmp .ge 79, 3) := by decide +kernel
theorem dX6_formNormal_33 : decode cX6_formNormal 33 = .ok (.aload_n 0, 1) := by decide +kernel
theorem dX6_formNormal_34 : decode cX6_formNormal 34 = .ok (.getfield 44, 3) := by decide +kernel
theorem dX6_formNormal_37 : decode cX6_formNormal 37 = .ok (.iload_n 2, 1) := by decide +kernel
theorem dX6_formNormal_38 : decode cX6_formNormal 38 = .ok (.invokevirtual 188, 3) := by decide +kernel
theorem dX6_formNormal_41 : decode cX6_formNormal 41 = .ok (.iload_n 1, 1) := by decide +kernel
theorem dX6_formNormal_42 : decode cX6_formNormal 42 = .ok (.if_icmp .ne 61, 3) := by decide +kernel
theorem dX6_formNormal_45 : decode cX6_formNormal 45 = .ok (.aload_n 0, 1) := by decide +kernel
theorem dX6_formNormal_46 : decode cX6_formNormal 46 = .ok (.getfield 16, 3) := by decide +kernel
theorem dX6_formNormal_49 : decode cX6_formNormal 49 = .ok (.getfield 62, 3) := by decide +kernel
theorem dX6_formNormal_52 : decode cX6_formNormal 52 = .ok (.ifCond .le 28, 3) := by decide +kernel
theorem dX6_formNormal_55 : decode cX6_formNormal 55 = .ok (.aload_n 0, 1) := by decide +kernel
theorem dX6_formNormal_56 : decode cX6_formNormal 56 = .ok (.getfield 22, 3) := by decide +kernel
theorem dX6_formNormal_59 : decode cX6_formNormal 59 = .ok (.getfield 114, 3) := by decide +kernel
theorem dX6_formNormal_62 : decode cX6_formNormal 62 = .ok (.ifCond .eq 18, 3) := by decide +kernel
theorem dX6_formNormal_65 : decode cX6_formNormal 65 = .ok (.aload_n 0, 1) := by decide +kernel
theorem dX6_formNormal_66 : decode cX6_formNormal 66 = .ok (.getfield 16, 3) := by decide +kernel
theorem dX6_formNormal_69 : decode cX6_formNormal 69 = .ok (.aload_n 0, 1) := by decide +kernel
theorem dX6_formNormal_70 : decode cX6_formNormal 70 = .ok (.getfield 22, 3) := by decide +kernel
theorem dX6_formNormal_73 : decode cX6_formNormal 73 = .ok (.getfield 114, 3) := by decide +kernel
theorem dX6_formNormal_76 : decode cX6_formNormal 76 = .ok (.invokevirtual 55, 3) := by decide +kernel
theorem dX6_formNormal_79 : decode cX6_formNormal 79 = .ok (.pop, 1) := by decide +kernel
theorem dX6_formNormal_80 : decode cX6_formNormal 80 = .ok (.aload_n 0, 1) := by decide +kernel
theorem dX6_formNormal_81 : decode cX6_formNormal 81 = .ok (.getfield 16, 3) := by decide +kernel
theorem dX6_formNormal_84 : decode cX6_formNormal 84 = .ok (.aload_n 0, 1) := by decide +kernel
theorem dX6_formNormal_85 : decode cX6_formNormal 85 = .ok (.getfield 22, 3) := by decide +kernel
theorem dX6_formNormal_88 : decode cX6_formNormal 88 = .ok (.iload_n 1, 1) := by decide +kernel
theorem dX6_formNormal_89 : decode cX6_formNormal 89 = .ok (.invokevirtual 96, 3) := by decide +kernel
theorem dX6_formNormal_92 : decode cX6_formNormal 92 = .ok (.aload_n 0, 1) := by decide +kernel
theorem dX6_formNormal_93 : decode cX6_formNormal 93 = .ok (.getfield 44, 3) := by decide +kernel
theorem dX6_formNormal_96 : decode cX6_formNormal 96 = .ok (.iload_n 2, 1) := by decide +kernel
theorem dX6_formNormal_97 : decode cX6_formNormal 97 = .ok (.invokevirtual 194, 3) := by decide +kernel
theorem dX6_formNormal_100 : decode cX6_formNormal 100 = .ok (.invokevirtual 209, 3) := by decide +kernel
theorem dX6_formNormal_103 : decode cX6_formNormal 103 = .ok (.iinc 2 1, 3) := by decide +kernel
theorem dX6_formNormal_106 : decode cX6_formNormal 106 = .ok (.goto (-84), 3) := by decide +kernel
theorem dX6_formNormal_109 : decode cX6_formNormal 109 = .ok (.iinc 1 1, 3) := by decide +kernel
theorem dX6_formNormal_112 : decode cX6_formNormal 112 = .ok (.goto (-103), 3) := by decide +kernel
theorem dX6_formNormal_115 : decode cX6_formNormal 115 = .ok (.return_, 1) := by decide +kernel
theorem dX6_orders_0 : decode cX6_orders 0 = .ok (.iload_n 1, 1) := by decide +kernel
theorem dX6_orders_1 : decode cX6_orders 1 = .ok (.iconst (-1), 1) := by decide +kernel
theorem dX6_orders_2 : decode cX6_orders 2 = .ok (.if_icmp .lt 9, 3) := by decide +kernel
theorem dX6_orders_5 : decode cX6_orders 5 = .ok (.iload_n 1, 1) := by decide +kernel
theorem dX6_orders_6 : decode cX6_orders 6 = .ok (.bipush 18, 2) := by decide +kernel
theorem dX6_orders_8 : decode cX6_orders 8 = .ok (.if_icmp .le 7, 3) := by decide +kernel
theorem dX6_orders_11 : decode cX6_orders 11 = .ok (.ldc2_w 213, 3) := by decide +kernel
theorem dX6_orders_14 : decode cX6_orders 14 = .ok (.lreturn, 1) := by decide +kernel
theorem dX6_orders_15 : decode cX6_orders 15 = .ok (.aload_n 0, 1) := by decide +kernel
theorem dX6_orders_16 : decode cX6_orders 16 = .ok (.getfield 51, 3) := by decide +kernel
theorem dX6_orders_19 : decode cX6_orders 19 = .ok (.aload_n 0, 1) := by decide +kernel
theorem dX6_orders_20 : decode cX6_orders 20 = .ok (.getfield 22, 3) := by decide +kernel
theorem dX6_orders_23 : decode cX6_orders 23 = .ok (.iload_n 1, 1) := by decide +kernel
theorem dX6_orders_24 : decode cX6_orders 24 = .ok (.invokevirtual 215, 3) := by decide +kernel
theorem dX6_orders_27 : decode cX6_orders 27 = .ok (.aload_n 0, 1) := by decide +kernel
theorem dX6_orders_28 : decode cX6_orders 28 = .ok (.getfield 51, 3) := by decide +kernel
theorem dX6_orders_31 : decode cX6_orders 31 = .ok (.iconst 0, 1) := by decide +kernel
theorem dX6_orders_32 : decode cX6_orders 32 = .ok (.invokevirtual 218, 3) := by decide +kernel
theorem dX6_orders_35 : decode cX6_orders 35 = .ok (.lreturn, 1) := by decide +kernel
theorem dX6_order_0 : decode cX6_order 0 = .ok (.lload_n 1, 1) := by decide +kernel
theorem dX6_order_1 : decode cX6_order 1 = .ok (.lconst 0, 1) := by decide +kernel
theorem dX6_order_2 : decode cX6_order 2 = .ok (.lcmp, 1) := by decide +kernel
theorem dX6_order_3 : decode cX6_order 3 = .ok (.ifCond .lt 7, 3) := by decide +kernel
theorem dX6_order_6 : decode cX6_order 6 = .ok (.iload_n 3, 1) := by decide +kernel
theorem dX6_order_7 : decode cX6_order 7 = .ok (.ifCond .ge 5, 3) := by decide +kernel
theorem dX6_order_10 : decode cX6_order 10 = .ok (.iconst (-1), 1) := by decide +kernel
theorem dX6_order_11 : decode cX6_order 11 = .ok (.ireturn, 1) := by decide +kernel
theorem dX6_order_12 : decode cX6_order 12 = .ok (.aload_n 0, 1) := by decide +kernel
theorem dX6_order_13 : decode cX6_order 13 = .ok (.getfield 51, 3) := by decide +kernel
theorem dX6_order_16 : decode cX6_order 16 = .ok (.aload_n 0, 1) := by decide +kernel
theorem dX6_order_17 : decode cX6_order 17 = .ok (.getfield 22, 3) := by decide +kernel
theorem dX6_order_20 : decode cX6_order 20 = .ok (.iconst (-1), 1) := by decide +kernel
theorem dX6_order_21 : decode cX6_order 21 = .ok (.invokevirtual 215, 3) := by decide +kernel
theorem dX6_order_24 : decode cX6_order 24 = .ok (.aload_n 0, 1) := by decide +kernel
theorem dX6_order_25 : decode cX6_order 25 = .ok (.getfield 51, 3) := by decide +kernel
theorem dX6_order_28 : decode cX6_order 28 = .ok (.aload_n 0, 1) := by decide +kernel
theorem dX6_order_29 : decode cX6_order 29 = .ok (.getfield 22, 3) := by decide +kernel
theorem dX6_order_32 : decode cX6_order 32 = .ok (.lload_n 1, 1) := by decide +kernel
theorem dX6_order_33 : decode cX6_order 33 = .ok (.iload_n 3, 1) := by decide +kernel
theorem dX6_order_34 : decode cX6_order 34 = .ok (.invokevirtual 221, 3) := by decide +kernel
theorem dX6_order_37 : decode cX6_order 37 = .ok (.ireturn, 1) := by decide +kernel
theorem dX6_rank_0 : decode cX6_rank 0 = .ok (.aload_n 0, 1) := by decide +kernel
theorem dX6_rank_1 : decode cX6_rank 1 = .ok (.getfield 44, 3) := by decide +kernel
theorem dX6_rank_4 : decode cX6_rank 4 = .ok (.aload_n 0, 1) := by decide +kernel
theorem dX6_rank_5 : decode cX6_rank 5 = .ok (.getfield 22, 3) := by decide +kernel
theorem dX6_rank_8 : decode cX6_rank 8 = .ok (.aload_n 0, 1) := by decide +kernel
theorem dX6_rank_9 : decode cX6_rank 9 = .ok (.getfield 10, 3) := by decide +kernel
theorem dX6_rank_12 : decode cX6_rank 12 = .ok (.invokevirtual 164, 3) := by decide +kernel
theorem dX6_rank_15 : decode cX6_rank 15 = .ok (.aload_n 0, 1) := by decide +kernel
theorem dX6_rank_16 : decode cX6_rank 16 = .ok (.getfield 44, 3) := by decide +kernel
theorem dX6_rank_19 : decode cX6_rank 19 = .ok (.invokevirtual 168, 3) := by decide +kernel
theorem dX6_rank_22 : decode cX6_rank 22 = .ok (.ifCond .ne 7, 3) := by decide +kernel
theorem dX6_rank_25 : decode cX6_rank 25 = .ok (.ldc2_w 225, 3) := by decide +kernel
theorem dX6_rank_28 : decode cX6_rank 28 = .ok (.lreturn, 1) := by decide +kernel
theorem dX6_rank_29 : decode cX6_rank 29 = .ok (.aload_n 0, 1) := by decide +kernel
theorem dX6_rank_30 : decode cX6_rank 30 = .ok (.getfield 51, 3) := by decide +kernel
theorem dX6_rank_33 : decode cX6_rank 33 = .ok (.aload_n 0, 1) := by decide +kernel
theorem dX6_rank_34 : decode cX6_rank 34 = .ok (.getfield 22, 3) := by decide +kernel
theorem dX6_rank_37 : decode cX6_rank 37 = .ok (.iconst (-1), 1) := by decide +kernel
theorem dX6_rank_38 : decode cX6_rank 38 = .ok (.invokevirtual 215, 3) := by decide +kernel
theorem dX6_rank_41 : decode cX6_rank 41 = .ok (.aload_n 0, 1) := by decide +kernel
theorem dX6_rank_42 : decode cX6_rank 42 = .ok (.getfield 51, 3) := by decide +kernel
theorem dX6_rank_45 : decode cX6_rank 45 = .ok (.aload_n 0, 1) := by decide +kernel
theorem dX6_rank_46 : decode cX6_rank 46 = .ok (.getfield 22, 3) := by decide +kernel
theorem dX6_rank_49 : decode cX6_rank 49 = .ok (.aload_n 0, 1) := by decide +kernel
theorem dX6_rank_50 : decode cX6_rank 50 = .ok (.getfield 44, 3) := by decide +kernel
theorem dX6_rank_53 : decode cX6_rank 53 = .ok (.invokevirtual 227, 3) := by decide +kernel
theorem dX6_rank_56 : decode cX6_rank 56 = .ok (.lreturn, 1) := by decide +kernel
theorem dX6_keep_0 : decode cX6_keep 0 = .ok (.aload_n 0, 1) := by decide +kernel
theorem dX6_keep_1 : decode cX6_keep 1 = .ok (.iload_n 1, 1) := by decide +kernel
theorem dX6_keep_2 : decode cX6_keep 2 = .ok (.invokevirtual 231, 3) := by decide +kernel
theorem dX6_keep_5 : decode cX6_keep 5 = .ok (.ifCond .ne 5, 3) := by decide +kernel
theorem dX6_keep_8 : decode cX6_keep 8 = .ok (.iconst (-1), 1) := by decide +kernel
theorem dX6_keep_9 : decode cX6_keep 9 = .ok (.ireturn, 1) := by decide +kernel
theorem dX6_keep_10 : decode cX6_keep 10 = .ok (.aload_n 0, 1) := by decide +kernel
theorem dX6_keep_11 : decode cX6_keep 11 = .ok (.getfield 33, 3) := by decide +kernel
theorem dX6_keep_14 : decode cX6_keep 14 = .ok (.iload_n 1, 1) := by decide +kernel
theorem dX6_keep_15 : decode cX6_keep 15 = .ok (.aaload, 1) := by decide +kernel
theorem dX6_keep_16 : decode cX6_keep 16 = .ok (.aload_n 0, 1) := by decide +kernel
theorem dX6_keep_17 : decode cX6_keep 17 = .ok (.getfield 22, 3) := by decide +kernel
theorem dX6_keep_20 : decode cX6_keep 20 = .ok (.invokevirtual 234, 3) := by decide +kernel
theorem dX6_keep_23 : decode cX6_keep 23 = .ok (.aload_n 0, 1) := by decide +kernel
theorem dX6_keep_24 : decode cX6_keep 24 = .ok (.getfield 37, 3) := by decide +kernel
theorem dX6_keep_27 : decode cX6_keep 27 = .ok (.iload_n 1, 1) := by decide +kernel
theorem dX6_keep_28 : decode cX6_keep 28 = .ok (.iconst 1, 1) := by decide +kernel
theorem dX6_keep_29 : decode cX6_keep 29 = .ok (.bastore, 1) := by decide +kernel
theorem dX6_keep_30 : decode cX6_keep 30 = .ok (.aload_n 0, 1) := by decide +kernel
theorem dX6_keep_31 : decode cX6_keep 31 = .ok (.getfield 22, 3) := by decide +kernel
theorem dX6_keep_34 : decode cX6_keep 34 = .ok (.getfield 79, 3) := by decide +kernel
theorem dX6_keep_37 : decode cX6_keep 37 = .ok (.ireturn, 1) := by decide +kernel
theorem dX6_back_0 : decode cX6_back 0 = .ok (.aload_n 0, 1) := by decide +kernel
theorem dX6_back_1 : decode cX6_back 1 = .ok (.iload_n 1, 1) := by decide +kernel
theorem dX6_back_2 : decode cX6_back 2 = .ok (.invokevirtual 231, 3) := by decide +kernel
theorem dX6_back_5 : decode cX6_back 5 = .ok (.ifCond .ne 5, 3) := by decide +kernel
theorem dX6_back_8 : decode cX6_back 8 = .ok (.iconst (-1), 1) := by decide +kernel
theorem dX6_back_9 : decode cX6_back 9 = .ok (.ireturn, 1) := by decide +kernel
theorem dX6_back_10 : decode cX6_back 10 = .ok (.aload_n 0, 1) := by decide +kernel
theorem dX6_back_11 : decode cX6_back 11 = .ok (.getfield 37, 3) := by decide +kernel
theorem dX6_back_14 : decode cX6_back 14 = .ok (.iload_n 1, 1) := by decide +kernel
theorem dX6_back_15 : decode cX6_back 15 = .ok (.baload, 1) := by decide +kernel
theorem dX6_back_16 : decode cX6_back 16 = .ok (.ifCond .ne 6, 3) := by decide +kernel
theorem dX6_back_19 : decode cX6_back 19 = .ok (.bipush (-2), 2) := by decide +kernel
theorem dX6_back_21 : decode cX6_back 21 = .ok (.ireturn, 1) := by decide +kernel
theorem dX6_back_22 : decode cX6_back 22 = .ok (.aload_n 0, 1) := by decide +kernel
theorem dX6_back_23 : decode cX6_back 23 = .ok (.invokevirtual 82, 3) := by decide +kernel
theorem dX6_back_26 : decode cX6_back 26 = .ok (.aload_n 0, 1) := by decide +kernel
theorem dX6_back_27 : decode cX6_back 27 = .ok (.getfield 22, 3) := by decide +kernel
theorem dX6_back_30 : decode cX6_back 30 = .ok (.aload_n 0, 1) := by decide +kernel
theorem dX6_back_31 : decode cX6_back 31 = .ok (.getfield 33, 3) := by decide +kernel
theorem dX6_back_34 : decode cX6_back 34 = .ok (.iload_n 1, 1) := by decide +kernel
theorem dX6_back_35 : decode cX6_back 35 = .ok (.aaload, 1) := by decide +kernel
theorem dX6_back_36 : decode cX6_back 36 = .ok (.invokevirtual 234, 3) := by decide +kernel
theorem dX6_back_39 : decode cX6_back 39 = .ok (.aload_n 0, 1) := by decide +kernel
theorem dX6_back_40 : decode cX6_back 40 = .ok (.getfield 22, 3) := by decide +kernel
theorem dX6_back_43 : decode cX6_back 43 = .ok (.getfield 79, 3) := by decide +kernel
theorem dX6_back_46 : decode cX6_back 46 = .ok (.ireturn, 1) := by decide +kernel
theorem dX6_isImage_0 : decode cX6_isImage 0 = .ok (.iload_n 1, 1) := by decide +kernel
theorem dX6_isImage_1 : decode cX6_isImage 1 = .ok (.ifCond .lt 25, 3) := by decide +kernel
theorem dX6_isImage_4 : decode cX6_isImage 4 = .ok (.iload_n 1, 1) := by decide +kernel
theorem dX6_isImage_5 : decode cX6_isImage 5 = .ok (.aload_n 0, 1) := by decide +kernel
theorem dX6_isImage_6 : decode cX6_isImage 6 = .ok (.getfield 33, 3) := by decide +kernel
theorem dX6_isImage_9 : decode cX6_isImage 9 = .ok (.arraylength, 1) := by decide +kernel
theorem dX6_isImage_10 : decode cX6_isImage 10 = .ok (.if_icmp .ge 16, 3) := by decide +kernel
theorem dX6_isImage_13 : decode cX6_isImage 13 = .ok (.iload_n 1, 1) := by decide +kernel
theorem dX6_isImage_14 : decode cX6_isImage 14 = .ok (.aload_n 0, 1) := by decide +kernel
theorem dX6_isImage_15 : decode cX6_isImage 15 = .ok (.getfield 37, 3) := by decide +kernel
theorem dX6_isImage_18 : decode cX6_isImage 18 = .ok (.arraylength, 1) := by decide +kernel
theorem dX6_isImage_19 : decode cX6_isImage 19 = .ok (.if_icmp .ge 7, 3) := by decide +kernel
theorem dX6_isImage_22 : decode cX6_isImage 22 = .ok (.iconst 1, 1) := by decide +kernel
theorem dX6_isImage_23 : decode cX6_isImage 23 = .ok (.goto 4, 3) := by decide +kernel
theorem dX6_isImage_26 : decode cX6_isImage 26 = .ok (.iconst 0, 1) := by decide +kernel
theorem dX6_isImage_27 : decode cX6_isImage 27 = .ok (.ireturn, 1) := by decide +kernel
theorem dX6_isKind_0 : decode cX6_isKind 0 = .ok (.iload_n 0, 1) := by decide +kernel
theorem dX6_isKind_1 : decode cX6_isKind 1 = .ok (.ifCond .eq 13, 3) := by decide +kernel
theorem dX6_isKind_4 : decode cX6_isKind 4 = .ok (.iload_n 0, 1) := by decide +kernel
theorem dX6_isKind_5 : decode cX6_isKind 5 = .ok (.iconst 1, 1) := by decide +kernel
theorem dX6_isKind_6 : decode cX6_isKind 6 = .ok (.if_icmp .eq 8, 3) := by decide +kernel
theorem dX6_isKind_9 : decode cX6_isKind 9 = .ok (.iload_n 0, 1) := by decide +kernel
theorem dX6_isKind_10 : decode cX6_isKind 10 = .ok (.iconst 2, 1) := by decide +kernel
theorem dX6_isKind_11 : decode cX6_isKind 11 = .ok (.if_icmp .ne 7, 3) := by decide +kernel
theorem dX6_isKind_14 : decode cX6_isKind 14 = .ok (.iconst 1, 1) := by decide +kernel
theorem dX6_isKind_15 : decode cX6_isKind 15 = .ok (.goto 4, 3) := by decide +kernel
theorem dX6_isKind_18 : decode cX6_isKind 18 = .ok (.iconst 0, 1) := by decide +kernel
theorem dX6_isKind_19 : decode cX6_isKind 19 = .ok (.ireturn, 1) := by decide +kernel
theorem dX6_isDigit_0 : decode cX6_isDigit 0 = .ok (.iload_n 0, 1) := by decide +kernel
theorem dX6_isDigit_1 : decode cX6_isDigit 1 = .ok (.bipush 48, 2) := by decide +kernel
theorem dX6_isDigit_3 : decode cX6_isDigit 3 = .ok (.if_icmp .lt 13, 3) := by decide +kernel
theorem dX6_isDigit_6 : decode cX6_isDigit 6 = .ok (.iload_n 0, 1) := by decide +kernel
theorem dX6_isDigit_7 : decode cX6_isDigit 7 = .ok (.bipush 57, 2) := by decide +kernel
theorem dX6_isDigit_9 : decode cX6_isDigit 9 = .ok (.if_icmp .gt 7, 3) := by decide +kernel
theorem dX6_isDigit_12 : decode cX6_isDigit 12 = .ok (.iconst 1, 1) := by decide +kernel
theorem dX6_isDigit_13 : decode cX6_isDigit 13 = .ok (.goto 4, 3) := by decide +kernel
theorem dX6_isDigit_16 : decode cX6_isDigit 16 = .ok (.iconst 0, 1) := by decide +kernel
theorem dX6_isDigit_17 : decode cX6_isDigit 17 = .ok (.ireturn, 1) := by decide +kernel
theorem dX6_isSmallLetter_0 : decode cX6_isSmallLetter 0 = .ok (.iload_n 0, 1) := by decide +kernel
theorem dX6_isSmallLetter_1 : decode cX6_isSmallLetter 1 = .ok (.bipush 97, 2) := by decide +kernel
theorem dX6_isSmallLetter_3 : decode cX6_isSmallLetter 3 = .ok (.if_icmp .lt 13, 3) := by decide +kernel
theorem dX6_isSmallLetter_6 : decode cX6_isSmallLetter 6 = .ok (.iload_n 0, 1) := by decide +kernel
theorem dX6_isSmallLetter_7 : decode cX6_isSmallLetter 7 = .ok (.bipush 122, 2) := by decide +kernel
theorem dX6_isSmallLetter_9 : decode cX6_isSmallLetter 9 = .ok (.if_icmp .gt 7, 3) := by decide +kernel
theorem dX6_isSmallLetter_12 : decode cX6_isSmallLetter 12 = .ok (.iconst 1, 1) := by decide +kernel
theorem dX6_isSmallLetter_13 : decode cX6_isSmallLetter 13 = .ok (.goto 4, 3) := by decide +kernel
theorem dX6_isSmallLetter_16 : decode cX6_isSmallLetter 16 = .ok (.iconst 0, 1) := by decide +kernel
theorem dX6_isSmallLetter_17 : decode cX6_isSmallLetter 17 = .ok (.ireturn, 1) := by decide +kernel
theorem dX6_isCapital_0 : decode cX6_isCapital 0 = .ok (.iload_n 0, 1) := by decide +kernel
theorem dX6_isCapital_1 : decode cX6_isCapital 1 = .ok (.bipush 65, 2) := by decide +kernel
theorem dX6_isCapital_3 : decode cX6_isCapital 3 = .ok (.if_icmp .lt 13, 3) := by decide +kernel
theorem dX6_isCapital_6 : decode cX6_isCapital 6 = .ok (.iload_n 0, 1) := by decide +kernel
theorem dX6_isCapital_7 : decode cX6_isCapital 7 = .ok (.bipush 90, 2) := by decide +kernel
theorem dX6_isCapital_9 : decode cX6_isCapital 9 = .ok (.if_icmp .gt 7, 3) := by decide +kernel
theorem dX6_isCapital_12 : decode cX6_isCapital 12 = .ok (.iconst 1, 1) := by decide +kernel
theorem dX6_isCapital_13 : decode cX6_isCapital 13 = .ok (.goto 4, 3) := by decide +kernel
theorem dX6_isCapital_16 : decode cX6_isCapital 16 = .ok (.iconst 0, 1) := by decide +kernel
theorem dX6_isCapital_17 : decode cX6_isCapital 17 = .ok (.ireturn, 1) := by decide +kernel
theorem dX6_bitOf_0 : decode cX6_bitOf 0 = .ok (.iload_n 0, 1) := by decide +kernel
theorem dX6_bitOf_1 : decode cX6_bitOf 1 = .ok (.iload_n 1, 1) := by decide +kernel
theorem dX6_bitOf_2 : decode cX6_bitOf 2 = .ok (.ishr, 1) := by decide +kernel
theorem dX6_bitOf_3 : decode cX6_bitOf 3 = .ok (.iconst 1, 1) := by decide +kernel
theorem dX6_bitOf_4 : decode cX6_bitOf 4 = .ok (.iand, 1) := by decide +kernel
theorem dX6_bitOf_5 : decode cX6_bitOf 5 = .ok (.ireturn, 1) := by decide +kernel
theorem dX6_withBit_0 : decode cX6_withBit 0 = .ok (.iload_n 0, 1) := by decide +kernel
theorem dX6_withBit_1 : decode cX6_withBit 1 = .ok (.iconst 1, 1) := by decide +kernel
theorem dX6_withBit_2 : decode cX6_withBit 2 = .ok (.iload_n 1, 1) := by decide +kernel
theorem dX6_withBit_3 : decode cX6_withBit 3 = .ok (.ishl, 1) := by decide +kernel
theorem dX6_withBit_4 : decode cX6_withBit 4 = .ok (.iconst (-1), 1) := by decide +kernel
theorem dX6_withBit_5 : decode cX6_withBit 5 = .ok (.ixor, 1) := by decide +kernel
theorem dX6_withBit_6 : decode cX6_withBit 6 = .ok (.iand, 1) := by decide +kernel
theorem dX6_withBit_7 : decode cX6_withBit 7 = .ok (.iload_n 2, 1) := by decide +kernel
theorem dX6_withBit_8 : decode cX6_withBit 8 = .ok (.iload_n 1, 1) := by decide +kernel
theorem dX6_withBit_9 : decode cX6_withBit 9 = .ok (.ishl, 1) := by decide +kernel
theorem dX6_withBit_10 : decode cX6_withBit 10 = .ok (.ior, 1) := by decide +kernel
theorem dX6_withBit_11 : decode cX6_withBit 11 = .ok (.ireturn, 1) := by decide +kernel
theorem dX6_bitsBelow_0 : decode cX6_bitsBelow 0 = .ok (.iload_n 0, 1) := by decide +kernel
theorem dX6_bitsBelow_1 : decode cX6_bitsBelow 1 = .ok (.iconst 1, 1) := by decide +kernel
theorem dX6_bitsBelow_2 : decode cX6_bitsBelow 2 = .ok (.iload_n 1, 1) := by decide +kernel
theorem dX6_bitsBelow_3 : decode cX6_bitsBelow 3 = .ok (.ishl, 1) := by decide +kernel
theorem dX6_bitsBelow_4 : decode cX6_bitsBelow 4 = .ok (.iconst 1, 1) := by decide +kernel
theorem dX6_bitsBelow_5 : decode cX6_bitsBelow 5 = .ok (.isub, 1) := by decide +kernel
theorem dX6_bitsBelow_6 : decode cX6_bitsBelow 6 = .ok (.iand, 1) := by decide +kernel
theorem dX6_bitsBelow_7 : decode cX6_bitsBelow 7 = .ok (.ireturn, 1) := by decide +kernel
theorem dX6_withBitMoved_0 : decode cX6_withBitMoved 0 = .ok (.iload_n 0, 1) := by decide +kernel
theorem dX6_withBitMoved_1 : decode cX6_withBitMoved 1 = .ok (.iload_n 1, 1) := by decide +kernel
theorem dX6_withBitMoved_2 : decode cX6_withBitMoved 2 = .ok (.invokestatic 237, 3) := by decide +kernel
theorem dX6_withBitMoved_5 : decode cX6_withBitMoved 5 = .ok (.iload_n 0, 1) := by decide +kernel
theorem dX6_withBitMoved_6 : decode cX6_withBitMoved 6 = .ok (.iload_n 1, 1) := by decide +kernel
theorem dX6_withBitMoved_7 : decode cX6_withBitMoved 7 = .ok (.iconst 1, 1) := by decide +kernel
theorem dX6_withBitMoved_8 : decode cX6_withBitMoved 8 = .ok (.iadd, 1) := by decide +kernel
theorem dX6_withBitMoved_9 : decode cX6_withBitMoved 9 = .ok (.ishr, 1) := by decide +kernel
theorem dX6_withBitMoved_10 : decode cX6_withBitMoved 10 = .ok (.iload_n 1, 1) := by decide +kernel
theorem dX6_withBitMoved_11 : decode cX6_withBitMoved 11 = .ok (.ishl, 1) := by decide +kernel
theorem dX6_withBitMoved_12 : decode cX6_withBitMoved 12 = .ok (.ior, 1) := by decide +kernel
theorem dX6_withBitMoved_13 : decode cX6_withBitMoved 13 = .ok (.istore_n 3, 1) := by decide +kernel
theorem dX6_withBitMoved_14 : decode cX6_withBitMoved 14 = .ok (.iload_n 3, 1) := by decide +kernel
theorem dX6_withBitMoved_15 : decode cX6_withBitMoved 15 = .ok (.iload_n 2, 1) := by decide +kernel
theorem dX6_withBitMoved_16 : decode cX6_withBitMoved 16 = .ok (.invokestatic 237, 3) := by decide +kernel
theorem dX6_withBitMoved_19 : decode cX6_withBitMoved 19 = .ok (.iload_n 0, 1) := by decide +kernel
theorem dX6_withBitMoved_20 : decode cX6_withBitMoved 20 = .ok (.iload_n 1, 1) := by decide +kernel
theorem dX6_withBitMoved_21 : decode cX6_withBitMoved 21 = .ok (.invokestatic 120, 3) := by decide +kernel
theorem dX6_withBitMoved_24 : decode cX6_withBitMoved 24 = .ok (.iload_n 2, 1) := by decide +kernel
theorem dX6_withBitMoved_25 : decode cX6_withBitMoved 25 = .ok (.ishl, 1) := by decide +kernel
theorem dX6_withBitMoved_26 : decode cX6_withBitMoved 26 = .ok (.ior, 1) := by decide +kernel
theorem dX6_withBitMoved_27 : decode cX6_withBitMoved 27 = .ok (.iload_n 3, 1) := by decide +kernel
theorem dX6_withBitMoved_28 : decode cX6_withBitMoved 28 = .ok (.iload_n 2, 1) := by decide +kernel
theorem dX6_withBitMoved_29 : decode cX6_withBitMoved 29 = .ok (.ishr, 1) := by decide +kernel
theorem dX6_withBitMoved_30 : decode cX6_withBitMoved 30 = .ok (.iload_n 2, 1) := by decide +kernel
theorem dX6_withBitMoved_31 : decode cX6_withBitMoved 31 = .ok (.iconst 1, 1) := by decide +kernel
theorem dX6_withBitMoved_32 : decode cX6_withBitMoved 32 = .ok (.iadd, 1) := by decide +kernel
theorem dX6_withBitMoved_33 : decode cX6_withBitMoved 33 = .ok (.ishl, 1) := by decide +kernel
theorem dX6_withBitMoved_34 : decode cX6_withBitMoved 34 = .ok (.ior, 1) := by decide +kernel
theorem dX6_withBitMoved_35 : decode cX6_withBitMoved 35 = .ok (.ireturn, 1) := by decide +kernel
theorem dX6_timesIn_0 : decode cX6_timesIn 0 = .ok (.iload_n 0, 1) := by decide +kernel
theorem dX6_timesIn_1 : decode cX6_timesIn 1 = .ok (.iconst 2, 1) := by decide +kernel
theorem dX6_timesIn_2 : decode cX6_timesIn 2 = .ok (.iload_n 1, 1) := by decide +kernel
theorem dX6_timesIn_3 : decode cX6_timesIn 3 = .ok (.imul, 1) := by decide +kernel
theorem dX6_timesIn_4 : decode cX6_timesIn 4 = .ok (.ishr, 1) := by decide +kernel
theorem dX6_timesIn_5 : decode cX6_timesIn 5 = .ok (.iconst 3, 1) := by decide +kernel
theorem dX6_timesIn_6 : decode cX6_timesIn 6 = .ok (.iand, 1) := by decide +kernel
theorem dX6_timesIn_7 : decode cX6_timesIn 7 = .ok (.ireturn, 1) := by decide +kernel
theorem dX6_withOneMore_0 : decode cX6_withOneMore 0 = .ok (.iload_n 0, 1) := by decide +kernel
theorem dX6_withOneMore_1 : decode cX6_withOneMore 1 = .ok (.iconst 1, 1) := by decide +kernel
theorem dX6_withOneMore_2 : decode cX6_withOneMore 2 = .ok (.iconst 2, 1) := by decide +kernel
theorem dX6_withOneMore_3 : decode cX6_withOneMore 3 = .ok (.iload_n 1, 1) := by decide +kernel
theorem dX6_withOneMore_4 : decode cX6_withOneMore 4 = .ok (.imul, 1) := by decide +kernel
theorem dX6_withOneMore_5 : decode cX6_withOneMore 5 = .ok (.ishl, 1) := by decide +kernel
theorem dX6_withOneMore_6 : decode cX6_withOneMore 6 = .ok (.iadd, 1) := by decide +kernel
theorem dX6_withOneMore_7 : decode cX6_withOneMore 7 = .ok (.ireturn, 1) := by decide +kernel
theorem dX7_init_0 : decode cX7_init 0 = .ok (.aload_n 0, 1) := by decide +kernel
theorem dX7_init_1 : decode cX7_init 1 = .ok (.invokespecial 1, 3) := by decide +kernel
theorem dX7_init_4 : decode cX7_init 4 = .ok (.aload_n 0, 1) := by decide +kernel
theorem dX7_init_5 : decode cX7_init 5 = .ok (.bipush 50, 2) := by decide +kernel
theorem dX7_init_7 : decode cX7_init 7 = .ok (.newarray .int, 2) := by decide +kernel
theorem dX7_init_9 : decode cX7_init 9 = .ok (.putfield 7, 3) := by decide +kernel
theorem dX7_init_12 : decode cX7_init 12 = .ok (.aload_n 0, 1) := by decide +kernel
theorem dX7_init_13 : decode cX7_init 13 = .ok (.sipush 400, 3) := by decide +kernel
theorem dX7_init_16 : decode cX7_init 16 = .ok (.newarray .int, 2) := by decide +kernel
theorem dX7_init_18 : decode cX7_init 18 = .ok (.putfield 13, 3) := by decide +kernel
theorem dX7_init_21 : decode cX7_init 21 = .ok (.aload_n 0, 1) := by decide +kernel
theorem dX7_init_22 : decode cX7_init 22 = .ok (.bipush 100, 2) := by decide +kernel
theorem dX7_init_24 : decode cX7_init 24 = .ok (.newarray .int, 2) := by decide +kernel
theorem dX7_init_26 : decode cX7_init 26 = .ok (.putfield 16, 3) := by decide +kernel
theorem dX7_init_29 : decode cX7_init 29 = .ok (.aload_n 0, 1) := by decide +kernel
theorem dX7_init_30 : decode cX7_init 30 = .ok (.bipush 60, 2) := by decide +kernel
theorem dX7_init_32 : decode cX7_init 32 = .ok (.newarray .int, 2) := by decide +kernel
theorem dX7_init_34 : decode cX7_init 34 = .ok (.putfield 19, 3) := by decide +kernel
theorem dX7_init_37 : decode cX7_init 37 = .ok (.aload_n 0, 1) := by decide +kernel
theorem dX7_init_38 : decode cX7_init 38 = .ok (.bipush 6, 2) := by decide +kernel
theorem dX7_init_40 : decode cX7_init 40 = .ok (.newarray .int, 2) := by decide +kernel
theorem dX7_init_42 : decode cX7_init 42 = .ok (.putfield 22, 3) := by decide +kernel
theorem dX7_init_45 : decode cX7_init 45 = .ok (.aload_n 0, 1) := by decide +kernel
theorem dX7_init_46 : decode cX7_init 46 = .ok (.ldc 25, 2) := by decide +kernel
theorem dX7_init_48 : decode cX7_init 48 = .ok (.newarray .boolean, 2) := by decide +kernel
theorem dX7_init_50 : decode cX7_init 50 = .ok (.putfield 26, 3) := by decide +kernel
theorem dX7_init_53 : decode cX7_init 53 = .ok (.aload_n 0, 1) := by decide +kernel
theorem dX7_init_54 : decode cX7_init 54 = .ok (.ldc 25, 2) := by decide +kernel
theorem dX7_init_56 : decode cX7_init 56 = .ok (.newarray .int, 2) := by decide +kernel
theorem dX7_init_58 : decode cX7_init 58 = .ok (.putfield 30, 3) := by decide +kernel
theorem dX7_init_61 : decode cX7_init 61 = .ok (.aload_n 0, 1) := by decide +kernel
theorem dX7_init_62 : decode cX7_init 62 = .ok (.bipush 20, 2) := by decide +kernel
theorem dX7_init_64 : decode cX7_init 64 = .ok (.newarray .int, 2) := by decide +kernel
theorem dX7_init_66 : decode cX7_init 66 = .ok (.putfield 33, 3) := by decide +kernel
theorem dX7_init_69 : decode cX7_init 69 = .ok (.aload_n 0, 1) := by decide +kernel
theorem dX7_init_70 : decode cX7_init 70 = .ok (.bipush 20, 2) := by decide +kernel
theorem dX7_init_72 : decode cX7_init 72 = .ok (.newarray .int, 2) := by decide +kernel
theorem dX7_init_74 : decode cX7_init 74 = .ok (.putfield 36, 3) := by decide +kernel
theorem dX7_init_77 : decode cX7_init 77 = .ok (.aload_n 0, 1) := by decide +kernel
theorem dX7_init_78 : decode cX7_init 78 = .ok (.bipush 20, 2) := by decide +kernel
theorem dX7_init_80 : decode cX7_init 80 = .ok (.newarray .int, 2) := by decide +kernel
theorem dX7_init_82 : decode cX7_init 82 = .ok (.putfield 39, 3) := by decide +kernel
theorem dX7_init_85 : decode cX7_init 85 = .ok (.aload_n 0, 1) := by decide +kernel
theorem dX7_init_86 : decode cX7_init 86 = .ok (.sipush 200, 3) := by decide +kernel
theorem dX7_init_89 : decode cX7_init 89 = .ok (.newarray .int, 2) := by decide +kernel
theorem dX7_init_91 : decode cX7_init 91 = .ok (.putfield 42, 3) := by decide +kernel
theorem dX7_init_94 : decode cX7_init 94 = .ok (.aload_n 0, 1) := by decide +kernel
theorem dX7_init_95 : decode cX7_init 95 = .ok (.sipush 4096, 3) := by decide +kernel
theorem dX7_init_98 : decode cX7_init 98 = .ok (.newarray .long, 2) := by decide +kernel
theorem dX7_init_100 : decode cX7_init 100 = .ok (.putfield 45, 3) := by decide +kernel
theorem dX7_init_103 : decode cX7_init 103 = .ok (.aload_n 0, 1) := by decide +kernel
theorem dX7_init_104 : decode cX7_init 104 = .ok (.sipush 4096, 3) := by decide +kernel
theorem dX7_init_107 : decode cX7_init 107 = .ok (.newarray .long, 2) := by decide +kernel
theorem dX7_init_109 : decode cX7_init 109 = .ok (.putfield 49, 3) := by decide +kernel
theorem dX7_init_112 : decode cX7_init 112 = .ok (.aload_n 0, 1) := by decide +kernel
theorem dX7_init_113 : decode cX7_init 113 = .ok (.getfield 7, 3) := by decide +kernel
theorem dX7_init_116 : decode cX7_init 116 = .ok (.iconst 0, 1) := by decide +kernel
theorem dX7_init_117 : decode cX7_init 117 = .ok (.iconst 0, 1) := by decide +kernel
theorem dX7_init_118 : decode cX7_init 118 = .ok (.iastore, 1) := by decide +kernel
theorem dX7_init_119 : decode cX7_init 119 = .ok (.return_, 1) := by decide +kernel
theorem dX7_isIn_0 : decode cX7_isIn 0 = .ok (.iload_n 0, 1) := by decide +kernel
theorem dX7_isIn_1 : decode cX7_isIn 1 = .ok (.iload_n 1, 1) := by decide +kernel
theorem dX7_isIn_2 : decode cX7_isIn 2 = .ok (.if_icmp .lt 12, 3) := by decide +kernel
theorem dX7_isIn_5 : decode cX7_isIn 5 = .ok (.iload_n 0, 1) := by decide +kernel
theorem dX7_isIn_6 : decode cX7_isIn 6 = .ok (.iload_n 2, 1) := by decide +kernel
theorem dX7_isIn_7 : decode cX7_isIn 7 = .ok (.if_icmp .gt 7, 3) := by decide +kernel
theorem dX7_isIn_10 : decode cX7_isIn 10 = .ok (.iconst 1, 1) := by decide +kernel
theorem dX7_isIn_11 : decode cX7_isIn 11 = .ok (.goto 4, 3) := by decide +kernel
theorem dX7_isIn_14 : decode cX7_isIn 14 = .ok (.iconst 0, 1) := by decide +kernel
theorem dX7_isIn_15 : decode cX7_isIn 15 = .ok (.ireturn, 1) := by decide +kernel
theorem dX7_has_0 : decode cX7_has 0 = .ok (.iload_n 0, 1) := by decide +kernel
theorem dX7_has_1 : decode cX7_has 1 = .ok (.iload_n 1, 1) := by decide +kernel
theorem dX7_has_2 : decode cX7_has 2 = .ok (.ishr, 1) := by decide +kernel
theorem dX7_has_3 : decode cX7_has 3 = .ok (.iconst 1, 1) := by decide +kernel
theorem dX7_has_4 : decode cX7_has 4 = .ok (.iand, 1) := by decide +kernel
theorem dX7_has_5 : decode cX7_has 5 = .ok (.iconst 1, 1) := by decide +kernel
theorem dX7_has_6 : decode cX7_has 6 = .ok (.if_icmp .ne 7, 3) := by decide +kernel
theorem dX7_has_9 : decode cX7_has 9 = .ok (.iconst 1, 1) := by decide +kernel
theorem dX7_has_10 : decode cX7_has 10 = .ok (.goto 4, 3) := by decide +kernel
theorem dX7_has_13 : decode cX7_has 13 = .ok (.iconst 0, 1) := by decide +kernel
theorem dX7_has_14 : decode cX7_has 14 = .ok (.ireturn, 1) := by decide +kernel
theorem dX7_remember_0 : decode cX7_remember 0 = .ok (.aload_n 0, 1) := by decide +kernel
theorem dX7_remember_1 : decode cX7_remember 1 = .ok (.getfield 52, 3) := by decide +kernel
theorem dX7_remember_4 : decode cX7_remember 4 = .ok (.bipush 8, 2) := by decide +kernel
theorem dX7_remember_6 : decode cX7_remember 6 = .ok (.if_icmp .ne 43, 3) := by decide +kernel
theorem dX7_remember_9 : decode cX7_remember 9 = .ok (.iconst 0, 1) := by decide +kernel
theorem dX7_remember_10 : decode cX7_remember 10 = .ok (.istore_n 1, 1) := by decide +kernel
theorem dX7_remember_11 : decode cX7_remember 11 = .ok (.iload_n 1, 1) := by decide +kernel
theorem dX7_remember_12 : decode cX7_remember 12 = .ok (.sipush 350, 3) := by decide +kernel
theorem dX7_remember_15 : decode cX7_remember 15 = .ok (.if_icmp .ge 24, 3) := by decide +kernel
theorem dX7_remember_18 : decode cX7_remember 18 = .ok (.aload_n 0, 1) := by decide +kernel
theorem dX7_remember_19 : decode cX7_remember 19 = .ok (.getfield 13, 3) := by decide +kernel
theorem dX7_remember_22 : decode cX7_remember 22 = .ok (.iload_n 1, 1) := by decide +kernel
theorem dX7_remember_23 : decode cX7_remember 23 = .ok (.aload_n 0, 1) := by decide +kernel
theorem dX7_remember_24 : decode cX7_remember 24 = .ok (.getfield 13, 3) := by decide +kernel
theorem dX7_remember_27 : decode cX7_remember 27 = .ok (.iload_n 1, 1) := by decide +kernel
theorem dX7_remember_28 : decode cX7_remember 28 = .ok (.bipush 50, 2) := by decide +kernel
theorem dX7_remember_30 : decode cX7_remember 30 = .ok (.iadd, 1) := by decide +kernel
theorem dX7_remember_31 : decode cX7_remember 31 = .ok (.iaload, 1) := by decide +kernel
theorem dX7_remember_32 : decode cX7_remember 32 = .ok (.iastore, 1) := by decide +kernel
theorem dX7_remember_33 : decode cX7_remember 33 = .ok (.iinc 1 1, 3) := by decide +kernel
theorem dX7_remember_36 : decode cX7_remember 36 = .ok (.goto (-25), 3) := by decide +kernel
theorem dX7_remember_39 : decode cX7_remember 39 = .ok (.aload_n 0, 1) := by decide +kernel
theorem dX7_remember_40 : decode cX7_remember 40 = .ok (.dup, 1) := by decide +kernel
theorem dX7_remember_41 : decode cX7_remember 41 = .ok (.getfield 52, 3) := by decide +kernel
theorem dX7_remember_44 : decode cX7_remember 44 = .ok (.iconst 1, 1) := by decide +kernel
theorem dX7_remember_45 : decode cX7_remember 45 = .ok (.isub, 1) := by decide +kernel
theorem dX7_remember_46 : decode cX7_remember 46 = .ok (.putfield 52, 3) := by decide +kernel
theorem dX7_remember_49 : decode cX7_remember 49 = .ok (.iconst 0, 1) := by decide +kernel
theorem dX7_remember_50 : decode cX7_remember 50 = .ok (.istore_n 1, 1) := by decide +kernel
theorem dX7_remember_51 : decode cX7_remember 51 = .ok (.iload_n 1, 1) := by decide +kernel
theorem dX7_remember_52 : decode cX7_remember 52 = .ok (.bipush 50, 2) := by decide +kernel
theorem dX7_remember_54 : decode cX7_remember 54 = .ok (.if_icmp .ge 29, 3) := by decide +kernel
theorem dX7_remember_57 : decode cX7_remember 57 = .ok (.aload_n 0, 1) := by decide +kernel
theorem dX7_remember_58 : decode cX7_remember 58 = .ok (.getfield 13, 3) := by decide +kernel
theorem dX7_remember_61 : decode cX7_remember 61 = .ok (.bipush 50, 2) := by decide +kernel
theorem dX7_remember_63 : decode cX7_remember 63 = .ok (.aload_n 0, 1) := by decide +kernel
theorem dX7_remember_64 : decode cX7_remember 64 = .ok (.getfield 52, 3) := by decide +kernel
theorem dX7_remember_67 : decode cX7_remember 67 = .ok (.imul, 1) := by decide +kernel
theorem dX7_remember_68 : decode cX7_remember 68 = .ok (.iload_n 1, 1) := by decide +kernel
theorem dX7_remember_69 : decode cX7_remember 69 = .ok (.iadd, 1) := by decide +kernel
theorem dX7_remember_70 : decode cX7_remember 70 = .ok (.aload_n 0, 1) := by decide +kernel
theorem dX7_remember_71 : decode cX7_remember 71 = .ok (.getfield 7, 3) := by decide +kernel
theorem dX7_remember_74 : decode cX7_remember 74 = .ok (.iload_n 1, 1) := by decide +kernel
theorem dX7_remember_75 : decode cX7_remember 75 = .ok (.iaload, 1) := by decide +kernel
theorem dX7_remember_76 : decode cX7_remember 76 = .ok (.iastore, 1) := by decide +kernel
theorem dX7_remember_77 : decode cX7_remember 77 = .ok (.iinc 1 1, 3) := by decide +kernel
theorem dX7_remember_80 : decode cX7_remember 80 = .ok (.goto (-29), 3) := by decide +kernel
theorem dX7_remember_83 : decode cX7_remember 83 = .ok (.aload_n 0, 1) := by decide +kernel
theorem dX7_remember_84 : decode cX7_remember 84 = .ok (.dup, 1) := by decide +kernel
theorem dX7_remember_85 : decode cX7_remember 85 = .ok (.getfield 52, 3) := by decide +kernel
theorem dX7_remember_88 : decode cX7_remember 88 = .ok (.iconst 1, 1) := by decide +kernel
theorem dX7_remember_89 : decode cX7_remember 89 = .ok (.iadd, 1) := by decide +kernel
theorem dX7_remember_90 : decode cX7_remember 90 = .ok (.putfield 52, 3) := by decide +kernel
theorem dX7_remember_93 : decode cX7_remember 93 = .ok (.aload_n 0, 1) := by decide +kernel
theorem dX7_remember_94 : decode cX7_remember 94 = .ok (.iconst 0, 1) := by decide +kernel
theorem dX7_remember_95 : decode cX7_remember 95 = .ok (.putfield 56, 3) := by decide +kernel
theorem dX7_remember_98 : decode cX7_remember 98 = .ok (.return_, 1) := by decide +kernel
theorem dX7_isMember_0 : decode cX7_isMember 0 = .ok (.iload_n 1, 1) := by decide +kernel
theorem dX7_isMember_1 : decode cX7_isMember 1 = .ok (.iconst 0, 1) := by decide +kernel
theorem dX7_isMember_2 : decode cX7_isMember 2 = .ok (.aload_n 0, 1) := by decide +kernel
theorem dX7_isMember_3 : decode cX7_isMember 3 = .ok (.getfield 7, 3) := by decide +kernel
theorem dX7_isMember_6 : decode cX7_isMember 6 = .ok (.iconst 0, 1) := by decide +kernel
theorem dX7_isMember_7 : decode cX7_isMember 7 = .ok (.iaload, 1) := by decide +kernel
theorem dX7_isMember_8 : decode cX7_isMember 8 = .ok (.iconst 1, 1) := by decide +kernel
theorem dX7_isMember_9 : decode cX7_isMember 9 = .ok (.isub, 1) := by decide +kernel
theorem dX7_isMember_10 : decode cX7_isMember 10 = .ok (.invokestatic 60, 3) := by decide +kernel
theorem dX7_isMember_13 : decode cX7_isMember 13 = .ok (.ireturn, 1) := by decide +kernel
theorem dX7_write_0 : decode cX7_write 0 = .ok (.iload_n 1, 1) := by decide +kernel
theorem dX7_write_1 : decode cX7_write 1 = .ok (.bipush 32, 2) := by decide +kernel
theorem dX7_write_3 : decode cX7_write 3 = .ok (.bipush 126, 2) := by decide +kernel
theorem dX7_write_5 : decode cX7_write 5 = .ok (.invokestatic 60, 3) := by decide +kernel
theorem dX7_write_8 : decode cX7_write 8 = .ok (.ifCond .ne 5, 3) := by decide +kernel
theorem dX7_write_11 : decode cX7_write 11 = .ok (.iconst (-1), 1) := by decide +kernel
theorem dX7_write_12 : decode cX7_write 12 = .ok (.ireturn, 1) := by decide +kernel
theorem dX7_write_13 : decode cX7_write 13 = .ok (.aload_n 0, 1) := by decide +kernel
theorem dX7_write_14 : decode cX7_write 14 = .ok (.getfield 64, 3) := by decide +kernel
theorem dX7_write_17 : decode cX7_write 17 = .ok (.bipush 60, 2) := by decide +kernel
theorem dX7_write_19 : decode cX7_write 19 = .ok (.if_icmp .ne 6, 3) := by decide +kernel
theorem dX7_write_22 : decode cX7_write 22 = .ok (.bipush (-3), 2) := by decide +kernel
theorem dX7_write_24 : decode cX7_write 24 = .ok (.ireturn, 1) := by decide +kernel
theorem dX7_write_25 : decode cX7_write 25 = .ok (.aload_n 0, 1) := by decide +kernel
theorem dX7_write_26 : decode cX7_write 26 = .ok (.getfield 19, 3) := by decide +kernel
theorem dX7_write_29 : decode cX7_write 29 = .ok (.aload_n 0, 1) := by decide +kernel
theorem dX7_write_30 : decode cX7_write 30 = .ok (.getfield 64, 3) := by decide +kernel
theorem dX7_write_33 : decode cX7_write 33 = .ok (.iload_n 1, 1) := by decide +kernel
theorem dX7_write_34 : decode cX7_write 34 = .ok (.iastore, 1) := by decide +kernel
theorem dX7_write_35 : decode cX7_write 35 = .ok (.aload_n 0, 1) := by decide +kernel
theorem dX7_write_36 : decode cX7_write 36 = .ok (.dup, 1) := by decide +kernel
theorem dX7_write_37 : decode cX7_write 37 = .ok (.getfield 64, 3) := by decide +kernel
theorem dX7_write_40 : decode cX7_write 40 = .ok (.iconst 1, 1) := by decide +kernel
theorem dX7_write_41 : decode cX7_write 41 = .ok (.iadd, 1) := by decide +kernel
theorem dX7_write_42 : decode cX7_write 42 = .ok (.putfield 64, 3) := by decide +kernel
theorem dX7_write_45 : decode cX7_write 45 = .ok (.aload_n 0, 1) := by decide +kernel
theorem dX7_write_46 : decode cX7_write 46 = .ok (.iconst 0, 1) := by decide +kernel
theorem dX7_write_47 : decode cX7_write 47 = .ok (.putfield 56, 3) := by decide +kernel
theorem dX7_write_50 : decode cX7_write 50 = .ok (.aload_n 0, 1) := by decide +kernel
theorem dX7_write_51 : decode cX7_write 51 = .ok (.getfield 64, 3) := by decide +kernel
theorem dX7_write_54 : decode cX7_write 54 = .ok (.ireturn, 1) := by decide +kernel
theorem dX7_wipe_0 : decode cX7_wipe 0 = .ok (.aload_n 0, 1) := by decide +kernel
theorem dX7_wipe_1 : decode cX7_wipe 1 = .ok (.getfield 64, 3) := by decide +kernel
theorem dX7_wipe_4 : decode cX7_wipe 4 = .ok (.istore_n 1, 1) := by decide +kernel
theorem dX7_wipe_5 : decode cX7_wipe 5 = .ok (.aload_n 0, 1) := by decide +kernel
theorem dX7_wipe_6 : decode cX7_wipe 6 = .ok (.iconst 0, 1) := by decide +kernel
theorem dX7_wipe_7 : decode cX7_wipe 7 = .ok (.putfield 64, 3) := by decide +kernel
theorem dX7_wipe_10 : decode cX7_wipe 10 = .ok (.aload_n 0, 1) := by decide +kernel
theorem dX7_wipe_11 : decode cX7_wipe 11 = .ok (.iconst 0, 1) := by decide +kernel
theorem dX7_wipe_12 : decode cX7_wipe 12 = .ok (.putfield 56, 3) := by decide +kernel
theorem dX7_wipe_15 : decode cX7_wipe 15 = .ok (.iload_n 1, 1) := by decide +kernel
theorem dX7_wipe_16 : decode cX7_wipe 16 = .ok (.ireturn, 1) := by decide +kernel
theorem dX7_letter_0 : decode cX7_letter 0 = .ok (.aload_n 0, 1) := by decide +kernel
theorem dX7_letter_1 : decode cX7_letter 1 = .ok (.getfield 7, 3) := by decide +kernel
theorem dX7_letter_4 : decode cX7_letter 4 = .ok (.iconst 2, 1) := by decide +kernel
theorem dX7_letter_5 : decode cX7_letter 5 = .ok (.iconst 3, 1) := by decide +kernel
theorem dX7_letter_6 : decode cX7_letter 6 = .ok (.iload_n 1, 1) := by decide +kernel
theorem dX7_letter_7 : decode cX7_letter 7 = .ok (.imul, 1) := by decide +kernel
theorem dX7_letter_8 : decode cX7_letter 8 = .ok (.iadd, 1) := by decide +kernel
theorem dX7_letter_9 : decode cX7_letter 9 = .ok (.iload_n 2, 1) := by decide +kernel
theorem dX7_letter_10 : decode cX7_letter 10 = .ok (.iadd, 1) := by decide +kernel
theorem dX7_letter_11 : decode cX7_letter 11 = .ok (.iaload, 1) := by decide +kernel
theorem dX7_letter_12 : decode cX7_letter 12 = .ok (.ireturn, 1) := by decide +kernel
theorem dX7_wordLength_0 : decode cX7_wordLength 0 = .ok (.iconst 0, 1) := by decide +kernel
theorem dX7_wordLength_1 : decode cX7_wordLength 1 = .ok (.istore_n 2, 1) := by decide +kernel
theorem dX7_wordLength_2 : decode cX7_wordLength 2 = .ok (.iload_n 2, 1) := by decide +kernel
theorem dX7_wordLength_3 : decode cX7_wordLength 3 = .ok (.iconst 3, 1) := by decide +kernel
theorem dX7_wordLength_4 : decode cX7_wordLength 4 = .ok (.if_icmp .ge 18, 3) := by decide +kernel
theorem dX7_wordLength_7 : decode cX7_wordLength 7 = .ok (.aload_n 0, 1) := by decide +kernel
theorem dX7_wordLength_8 : decode cX7_wordLength 8 = .ok (.iload_n 1, 1) := by decide +kernel
theorem dX7_wordLength_9 : decode cX7_wordLength 9 = .ok (.iload_n 2, 1) := by decide +kernel
theorem dX7_wordLength_10 : decode cX7_wordLength 10 = .ok (.invokevirtual 67, 3) := by decide +kernel
theorem dX7_wordLength_13 : decode cX7_wordLength 13 = .ok (.ifCond .eq 9, 3) := by decide +kernel
theorem dX7_wordLength_16 : decode cX7_wordLength 16 = .ok (.iinc 2 1, 3) := by decide +kernel
theorem dX7_wordLength_19 : decode cX7_wordLength 19 = .ok (.goto (-17), 3) := by decide +kernel
theorem dX7_wordLength_22 : decode cX7_wordLength 22 = .ok (.iload_n 2, 1) := by decide +kernel
theorem dX7_wordLength_23 : decode cX7_wordLength 23 = .ok (.ireturn, 1) := by decide +kernel
theorem dX7_isWord_0 : decode cX7_isWord 0 = .ok (.aload_n 0, 1) := by decide +kernel
theorem dX7_isWord_1 : decode cX7_isWord 1 = .ok (.getfield 64, 3) := by decide +kernel
theorem dX7_isWord_4 : decode cX7_isWord 4 = .ok (.iconst 1, 1) := by decide +kernel
theorem dX7_isWord_5 : decode cX7_isWord 5 = .ok (.iconst 3, 1) := by decide +kernel
theorem dX7_isWord_6 : decode cX7_isWord 6 = .ok (.invokestatic 60, 3) := by decide +kernel
theorem dX7_isWord_9 : decode cX7_isWord 9 = .ok (.istore_n 1, 1) := by decide +kernel
theorem dX7_isWord_10 : decode cX7_isWord 10 = .ok (.iconst 0, 1) := by decide +kernel
theorem dX7_isWord_11 : decode cX7_isWord 11 = .ok (.istore_n 2, 1) := by decide +kernel
theorem dX7_isWord_12 : decode cX7_isWord 12 = .ok (.iload_n 2, 1) := by decide +kernel
theorem dX7_isWord_13 : decode cX7_isWord 13 = .ok (.aload_n 0, 1) := by decide +kernel
theorem dX7_isWord_14 : decode cX7_isWord 14 = .ok (.getfield 64, 3) := by decide +kernel
theorem dX7_isWord_17 : decode cX7_isWord 17 = .ok (.if_icmp .ge 27, 3) := by decide +kernel
theorem dX7_isWord_20 : decode cX7_isWord 20 = .ok (.iload_n 1, 1) := by decide +kernel
theorem dX7_isWord_21 : decode cX7_isWord 21 = .ok (.ifCond .eq 23, 3) := by decide +kernel
theorem dX7_isWord_24 : decode cX7_isWord 24 = .ok (.aload_n 0, 1) := by decide +kernel
theorem dX7_isWord_25 : decode cX7_isWord 25 = .ok (.getfield 19, 3) := by decide +kernel
theorem dX7_isWord_28 : decode cX7_isWord 28 = .ok (.iload_n 2, 1) := by decide +kernel
theorem dX7_isWord_29 : decode cX7_isWord 29 = .ok (.iaload, 1) := by decide +kernel
theorem dX7_isWord_30 : decode cX7_isWord 30 = .ok (.bipush 97, 2) := by decide +kernel
theorem dX7_isWord_32 : decode cX7_isWord 32 = .ok (.bipush 122, 2) := by decide +kernel
theorem dX7_isWord_34 : decode cX7_isWord 34 = .ok (.invokestatic 60, 3) := by decide +kernel
theorem dX7_isWord_37 : decode cX7_isWord 37 = .ok (.istore_n 1, 1) := by decide +kernel
theorem dX7_isWord_38 : decode cX7_isWord 38 = .ok (.iinc 2 1, 3) := by decide +kernel
theorem dX7_isWord_41 : decode cX7_isWord 41 = .ok (.goto (-29), 3) := by decide +kernel
theorem dX7_isWord_44 : decode cX7_isWord 44 = .ok (.iload_n 1, 1) := by decide +kernel
theorem dX7_isWord_45 : decode cX7_isWord 45 = .ok (.ireturn, 1) := by decide +kernel
theorem dX7_isWordOf_0 : decode cX7_isWordOf 0 = .ok (.aload_n 0, 1) := by decide +kernel
theorem dX7_isWordOf_1 : decode cX7_isWordOf 1 = .ok (.iload_n 1, 1) := by decide +kernel
theorem dX7_isWordOf_2 : decode cX7_isWordOf 2 = .ok (.invokevirtual 71, 3) := by decide +kernel
theorem dX7_isWordOf_5 : decode cX7_isWordOf 5 = .ok (.aload_n 0, 1) := by decide +kernel
theorem dX7_isWordOf_6 : decode cX7_isWordOf 6 = .ok (.getfield 64, 3) := by decide +kernel
theorem dX7_isWordOf_9 : decode cX7_isWordOf 9 = .ok (.if_icmp .ne 7, 3) := by decide +kernel
theorem dX7_isWordOf_12 : decode cX7_isWordOf 12 = .ok (.iconst 1, 1) := by decide +kernel
theorem dX7_isWordOf_13 : decode cX7_isWordOf 13 = .ok (.goto 4, 3) := by decide +kernel
theorem dX7_isWordOf_16 : decode cX7_isWordOf 16 = .ok (.iconst 0, 1) := by decide +kernel
theorem dX7_isWordOf_17 : decode cX7_isWordOf 17 = .ok (.istore_n 2, 1) := by decide +kernel
theorem dX7_isWordOf_18 : decode cX7_isWordOf 18 = .ok (.iconst 0, 1) := by decide +kernel
theorem dX7_isWordOf_19 : decode cX7_isWordOf 19 = .ok (.istore_n 3, 1) := by decide +kernel
theorem dX7_isWordOf_20 : decode cX7_isWordOf 20 = .ok (.iload_n 3, 1) := by decide +kernel
theorem dX7_isWordOf_21 : decode cX7_isWordOf 21 = .ok (.aload_n 0, 1) := by decide +kernel
theorem dX7_isWordOf_22 : decode cX7_isWordOf 22 = .ok (.getfield 64, 3) := by decide +kernel
theorem dX7_isWordOf_25 : decode cX7_isWordOf 25 = .ok (.if_icmp .ge 34, 3) := by decide +kernel
theorem dX7_isWordOf_28 : decode cX7_isWordOf 28 = .ok (.iload_n 2, 1) := by decide +kernel
theorem dX7_isWordOf_29 : decode cX7_isWordOf 29 = .ok (.ifCond .eq 30, 3) := by decide +kernel
theorem dX7_isWordOf_32 : decode cX7_isWordOf 32 = .ok (.aload_n 0, 1) := by decide +kernel
theorem dX7_isWordOf_33 : decode cX7_isWordOf 33 = .ok (.getfield 19, 3) := by decide +kernel
theorem dX7_isWordOf_36 : decode cX7_isWordOf 36 = .ok (.iload_n 3, 1) := by decide +kernel
theorem dX7_isWordOf_37 : decode cX7_isWordOf 37 = .ok (.iaload, 1) := by decide +kernel
theorem dX7_isWordOf_38 : decode cX7_isWordOf 38 = .ok (.aload_n 0, 1) := by decide +kernel
theorem dX7_isWordOf_39 : decode cX7_isWordOf 39 = .ok (.iload_n 1, 1) := by decide +kernel
theorem dX7_isWordOf_40 : decode cX7_isWordOf 40 = .ok (.iload_n 3, 1) := by decide +kernel
theorem dX7_isWordOf_41 : decode cX7_isWordOf 41 = .ok (.invokevirtual 67, 3) := by decide +kernel
theorem dX7_isWordOf_44 : decode cX7_isWordOf 44 = .ok (.if_icmp .ne 7, 3) := by decide +kernel
theorem dX7_isWordOf_47 : decode cX7_isWordOf 47 = .ok (.iconst 1, 1) := by decide +kernel
theorem dX7_isWordOf_48 : decode cX7_isWordOf 48 = .ok (.goto 4, 3) := by decide +kernel
theorem dX7_isWordOf_51 : decode cX7_isWordOf 51 = .ok (.iconst 0, 1) := by decide +kernel
theorem dX7_isWordOf_52 : decode cX7_isWordOf 52 = .ok (.istore_n 2, 1) := by decide +kernel
theorem dX7_isWordOf_53 : decode cX7_isWordOf 53 = .ok (.iinc 3 1, 3) := by decide +kernel
theorem dX7_isWordOf_56 : decode cX7_isWordOf 56 = .ok (.goto (-36), 3) := by decide +kernel
theorem dX7_isWordOf_59 : decode cX7_isWordOf 59 = .ok (.iload_n 2, 1) := by decide +kernel
theorem dX7_isWordOf_60 : decode cX7_isWordOf 60 = .ok (.ireturn, 1) := by decide +kernel
theorem dX7_isNewWord_0 : decode cX7_isNewWord 0 = .ok (.aload_n 0, 1) := by decide +kernel
theorem dX7_isNewWord_1 : decode cX7_isNewWord 1 = .ok (.invokevirtual 75, 3) := by decide +kernel
theorem dX7_isNewWord_4 : decode cX7_isNewWord 4 = .ok (.istore_n 1, 1) := by decide +kernel
theorem dX7_isNewWord_5 : decode cX7_isNewWord 5 = .ok (.iconst 0, 1) := by decide +kernel
theorem dX7_isNewWord_6 : decode cX7_isNewWord 6 = .ok (.istore_n 2, 1) := by decide +kernel
theorem dX7_isNewWord_7 : decode cX7_isNewWord 7 = .ok (.iload_n 2, 1) := by decide +kernel
theorem dX7_isNewWord_8 : decode cX7_isNewWord 8 = .ok (.aload_n 0, 1) := by decide +kernel
theorem dX7_isNewWord_9 : decode cX7_isNewWord 9 = .ok (.getfield 7, 3) := by decide +kernel
theorem dX7_isNewWord_12 : decode cX7_isNewWord 12 = .ok (.iconst 0, 1) := by decide +kernel
theorem dX7_isNewWord_13 : decode cX7_isNewWord 13 = .ok (.iaload, 1) := by decide +kernel
theorem dX7_isNewWord_14 : decode cX7_isNewWord 14 = .ok (.if_icmp .ge 27, 3) := by decide +kernel
theorem dX7_isNewWord_17 : decode cX7_isNewWord 17 = .ok (.iload_n 1, 1) := by decide +kernel
theorem dX7_isNewWord_18 : decode cX7_isNewWord 18 = .ok (.ifCond .eq 23, 3) := by decide +kernel
theorem dX7_isNewWord_21 : decode cX7_isNewWord 21 = .ok (.aload_n 0, 1) := by decide +kernel
theorem dX7_isNewWord_22 : decode cX7_isNewWord 22 = .ok (.iload_n 2, 1) := by decide +kernel
theorem dX7_isNewWord_23 : decode cX7_isNewWord 23 = .ok (.invokevirtual 79, 3) := by decide +kernel
theorem dX7_isNewWord_26 : decode cX7_isNewWord 26 = .ok (.ifCond .ne 7, 3) := by decide +kernel
theorem dX7_isNewWord_29 : decode cX7_isNewWord 29 = .ok (.iconst 1, 1) := by decide +kernel
theorem dX7_isNewWord_30 : decode cX7_isNewWord 30 = .ok (.goto 4, 3) := by decide +kernel
theorem dX7_isNewWord_33 : decode cX7_isNewWord 33 = .ok (.iconst 0, 1) := by decide +kernel
theorem dX7_isNewWord_34 : decode cX7_isNewWord 34 = .ok (.istore_n 1, 1) := by decide +kernel
theorem dX7_isNewWord_35 : decode cX7_isNewWord 35 = .ok (.iinc 2 1, 3) := by decide +kernel
theorem dX7_isNewWord_38 : decode cX7_isNewWord 38 = .ok (.goto (-31), 3) := by decide +kernel
theorem dX7_isNewWord_41 : decode cX7_isNewWord 41 = .ok (.iload_n 1, 1) := by decide +kernel
theorem dX7_isNewWord_42 : decode cX7_isNewWord 42 = .ok (.ireturn, 1) := by decide +kernel
theorem dX7_declare_0 : decode cX7_declare 0 = .ok (.iload_n 1, 1) := by decide +kernel
theorem dX7_declare_1 : decode cX7_declare 1 = .ok (.iconst 0, 1) := by decide +kernel
theorem dX7_declare_2 : decode cX7_declare 2 = .ok (.iconst 2, 1) := by decide +kernel
theorem dX7_declare_3 : decode cX7_declare 3 = .ok (.invokestatic 60, 3) := by decide +kernel
theorem dX7_declare_6 : decode cX7_declare 6 = .ok (.ifCond .eq 26, 3) := by decide +kernel
theorem dX7_declare_9 : decode cX7_declare 9 = .ok (.iload_n 2, 1) := by decide +kernel
theorem dX7_declare_10 : decode cX7_declare 10 = .ok (.iconst 0, 1) := by decide +kernel
theorem dX7_declare_11 : decode cX7_declare 11 = .ok (.iconst 3, 1) := by decide +kernel
theorem dX7_declare_12 : decode cX7_declare 12 = .ok (.invokestatic 60, 3) := by decide +kernel
theorem dX7_declare_15 : decode cX7_declare 15 = .ok (.ifCond .eq 17, 3) := by decide +kernel
theorem dX7_declare_18 : decode cX7_declare 18 = .ok (.iload_n 3, 1) := by decide +kernel
theorem dX7_declare_19 : decode cX7_declare 19 = .ok (.iconst 1, 1) := by decide +kernel
theorem dX7_declare_20 : decode cX7_declare 20 = .ok (.iconst 3, 1) := by decide +kernel
theorem dX7_declare_21 : decode cX7_declare 21 = .ok (.invokestatic 60, 3) := by decide +kernel
theorem dX7_declare_24 : decode cX7_declare 24 = .ok (.ifCond .eq 8, 3) := by decide +kernel
theorem dX7_declare_27 : decode cX7_declare 27 = .ok (.iload_n 3, 1) := by decide +kernel
theorem dX7_declare_28 : decode cX7_declare 28 = .ok (.iload_n 2, 1) := by decide +kernel
theorem dX7_declare_29 : decode cX7_declare 29 = .ok (.if_icmp .ge 5, 3) := by decide +kernel
theorem dX7_declare_32 : decode cX7_declare 32 = .ok (.iconst (-1), 1) := by decide +kernel
theorem dX7_declare_33 : decode cX7_declare 33 = .ok (.ireturn, 1) := by decide +kernel
theorem dX7_declare_34 : decode cX7_declare 34 = .ok (.aload_n 0, 1) := by decide +kernel
theorem dX7_declare_35 : decode cX7_declare 35 = .ok (.invokevirtual 83, 3) := by decide +kernel
theorem dX7_declare_38 : decode cX7_declare 38 = .ok (.ifCond .ne 6, 3) := by decide +kernel
theorem dX7_declare_41 : decode cX7_declare 41 = .ok (.bipush (-2), 2) := by decide +kernel
theorem dX7_declare_43 : decode cX7_declare 43 = .ok (.ireturn, 1) := by decide +kernel
theorem dX7_declare_44 : decode cX7_declare 44 = .ok (.aload_n 0, 1) := by decide +kernel
theorem dX7_declare_45 : decode cX7_declare 45 = .ok (.getfield 7, 3) := by decide +kernel
theorem dX7_declare_48 : decode cX7_declare 48 = .ok (.iconst 0, 1) := by decide +kernel
theorem dX7_declare_49 : decode cX7_declare 49 = .ok (.iaload, 1) := by decide +kernel
theorem dX7_declare_50 : decode cX7_declare 50 = .ok (.bipush 6, 2) := by decide +kernel
theorem dX7_declare_52 : decode cX7_declare 52 = .ok (.if_icmp .ne 6, 3) := by decide +kernel
theorem dX7_declare_55 : decode cX7_declare 55 = .ok (.bipush (-3), 2) := by decide +kernel
theorem dX7_declare_57 : decode cX7_declare 57 = .ok (.ireturn, 1) := by decide +kernel
theorem dX7_declare_58 : decode cX7_declare 58 = .ok (.aload_n 0, 1) := by decide +kernel
theorem dX7_declare_59 : decode cX7_declare 59 = .ok (.invokevirtual 86, 3) := by decide +kernel
theorem dX7_declare_62 : decode cX7_declare 62 = .ok (.aload_n 0, 1) := by decide +kernel
theorem dX7_declare_63 : decode cX7_declare 63 = .ok (.getfield 7, 3) := by decide +kernel
theorem dX7_declare_66 : decode cX7_declare 66 = .ok (.iconst 0, 1) := by decide +kernel
theorem dX7_declare_67 : decode cX7_declare 67 = .ok (.iaload, 1) := by decide +kernel
theorem dX7_declare_68 : decode cX7_declare 68 = .ok (.istore 4, 2) := by decide +kernel
theorem dX7_declare_70 : decode cX7_declare 70 = .ok (.iconst 0, 1) := by decide +kernel
theorem dX7_declare_71 : decode cX7_declare 71 = .ok (.istore 5, 2) := by decide +kernel
theorem dX7_declare_73 : decode cX7_declare 73 = .ok (.iload 5, 2) := by decide +kernel
theorem dX7_declare_75 : decode cX7_declare 75 = .ok (.iconst 3, 1) := by decide +kernel
theorem dX7_declare_76 : decode cX7_declare 76 = .ok (.if_icmp .ge 43, 3) := by decide +kernel
theorem dX7_declare_79 : decode cX7_declare 79 = .ok (.aload_n 0, 1) := by decide +kernel
theorem dX7_declare_80 : decode cX7_declare 80 = .ok (.getfield 7, 3) := by decide +kernel
theorem dX7_declare_83 : decode cX7_declare 83 = .ok (.iconst 2, 1) := by decide +kernel
theorem dX7_declare_84 : decode cX7_declare 84 = .ok (.iconst 3, 1) := by decide +kernel
theorem dX7_declare_85 : decode cX7_declare 85 = .ok (.iload 4, 2) := by decide +kernel
theorem dX7_declare_87 : decode cX7_declare 87 = .ok (.imul, 1) := by decide +kernel
theorem dX7_declare_88 : decode cX7_declare 88 = .ok (.iadd, 1) := by decide +kernel
theorem dX7_declare_89 : decode cX7_declare 89 = .ok (.iload 5, 2) := by decide +kernel
theorem dX7_declare_91 : decode cX7_declare 91 = .ok (.iadd, 1) := by decide +kernel
theorem dX7_declare_92 : decode cX7_declare 92 = .ok (.iload 5, 2) := by decide +kernel
theorem dX7_declare_94 : decode cX7_declare 94 = .ok (.aload_n 0, 1) := by decide +kernel
theorem dX7_declare_95 : decode cX7_declare 95 = .ok (.getfield 64, 3) := by decide +kernel
theorem dX7_declare_98 : decode cX7_declare 98 = .ok (.if_icmp .ge 13, 3) := by decide +kernel
theorem dX7_declare_101 : decode cX7_declare 101 = .ok (.aload_n 0, 1) := by decide +kernel
theorem dX7_declare_102 : decode cX7_declare 102 = .ok (.getfield 19, 3) := by decide +kernel
theorem dX7_declare_105 : decode cX7_declare 105 = .ok (.iload 5, 2) := by decide +kernel
theorem dX7_declare_107 : decode cX7_declare 107 = .ok (.iaload, 1) := by decide +kernel
theorem dX7_declare_108 : decode cX7_declare 108 = .ok (.goto 4, 3) := by decide +kernel
theorem dX7_declare_111 : decode cX7_declare 111 = .ok (.iconst 0, 1) := by decide +kernel
theorem dX7_declare_112 : decode cX7_declare 112 = .ok (.iastore, 1) := by decide +kernel
theorem dX7_declare_113 : decode cX7_declare 113 = .ok (.iinc 5 1, 3) := by decide +kernel
theorem dX7_declare_116 : decode cX7_declare 116 = .ok (.goto (-43), 3) := by decide +kernel
theorem dX7_declare_119 : decode cX7_declare 119 = .ok (.aload_n 0, 1) := by decide +kernel
theorem dX7_declare_120 : decode cX7_declare 120 = .ok (.getfield 7, 3) := by decide +kernel
theorem dX7_declare_123 : decode cX7_declare 123 = .ok (.bipush 20, 2) := by decide +kernel
theorem dX7_declare_125 : decode cX7_declare 125 = .ok (.iload 4, 2) := by decide +kernel
theorem dX7_declare_127 : decode cX7_declare 127 = .ok (.iadd, 1) := by decide +kernel
theorem dX7_declare_128 : decode cX7_declare 128 = .ok (.iload_n 1, 1) := by decide +kernel
theorem dX7_declare_129 : decode cX7_declare 129 = .ok (.iastore, 1) := by decide +kernel
theorem dX7_declare_130 : decode cX7_declare 130 = .ok (.aload_n 0, 1) := by decide +kernel
theorem dX7_declare_131 : decode cX7_declare 131 = .ok (.getfield 7, 3) := by decide +kernel
theorem dX7_declare_134 : decode cX7_declare 134 = .ok (.bipush 26, 2) := by decide +kernel
theorem dX7_declare_136 : decode cX7_declare 136 = .ok (.iload 4, 2) := by decide +kernel
theorem dX7_declare_138 : decode cX7_declare 138 = .ok (.iadd, 1) := by decide +kernel
theorem dX7_declare_139 : decode cX7_declare 139 = .ok (.iload_n 2, 1) := by decide +kernel
theorem dX7_declare_140 : decode cX7_declare 140 = .ok (.iastore, 1) := by decide +kernel
theorem dX7_declare_141 : decode cX7_declare 141 = .ok (.aload_n 0, 1) := by decide +kernel
theorem dX7_declare_142 : decode cX7_declare 142 = .ok (.getfield 7, 3) := by decide +kernel
theorem dX7_declare_145 : decode cX7_declare 145 = .ok (.bipush 32, 2) := by decide +kernel
theorem dX7_declare_147 : decode cX7_declare 147 = .ok (.iload 4, 2) := by decide +kernel
theorem dX7_declare_149 : decode cX7_declare 149 = .ok (.iadd, 1) := by decide +kernel
theorem dX7_declare_150 : decode cX7_declare 150 = .ok (.iload_n 3, 1) := by decide +kernel
theorem dX7_declare_151 : decode cX7_declare 151 = .ok (.iastore, 1) := by decide +kernel
theorem dX7_declare_152 : decode cX7_declare 152 = .ok (.aload_n 0, 1) := by decide +kernel
theorem dX7_declare_153 : decode cX7_declare 153 = .ok (.getfield 7, 3) := by decide +kernel
theorem dX7_declare_156 : decode cX7_declare 156 = .ok (.bipush 38, 2) := by decide +kernel
theorem dX7_declare_158 : decode cX7_declare 158 = .ok (.iload 4, 2) := by decide +kernel
theorem dX7_declare_160 : decode cX7_declare 160 = .ok (.iadd, 1) := by decide +kernel
theorem dX7_declare_161 : decode cX7_declare 161 = .ok (.iconst 0, 1) := by decide +kernel
theorem dX7_declare_162 : decode cX7_declare 162 = .ok (.iastore, 1) := by decide +kernel
theorem dX7_declare_163 : decode cX7_declare 163 = .ok (.aload_n 0, 1) := by decide +kernel
theorem dX7_declare_164 : decode cX7_declare 164 = .ok (.getfield 7, 3) := by decide +kernel
theorem dX7_declare_167 : decode cX7_declare 167 = .ok (.bipush 44, 2) := by decide +kernel
theorem dX7_declare_169 : decode cX7_declare 169 = .ok (.iload 4, 2) := by decide +kernel
theorem dX7_declare_171 : decode cX7_declare 171 = .ok (.iadd, 1) := by decide +kernel
theorem dX7_declare_172 : decode cX7_declare 172 = .ok (.iconst 0, 1) := by decide +kernel
theorem dX7_declare_173 : decode cX7_declare 173 = .ok (.iastore, 1) := by decide +kernel
theorem dX7_declare_174 : decode cX7_declare 174 = .ok (.aload_n 0, 1) := by decide +kernel
theorem dX7_declare_175 : decode cX7_declare 175 = .ok (.getfield 7, 3) := by decide +kernel
theorem dX7_declare_178 : decode cX7_declare 178 = .ok (.iconst 0, 1) := by decide +kernel
theorem dX7_declare_179 : decode cX7_declare 179 = .ok (.dup2, 1) := by decide +kernel
theorem dX7_declare_180 : decode cX7_declare 180 = .ok (.iaload, 1) := by decide +kernel
theorem dX7_declare_181 : decode cX7_declare 181 = .ok (.iconst 1, 1) := by decide +kernel
theorem dX7_declare_182 : decode cX7_declare 182 = .ok (.iadd, 1) := by decide +kernel
theorem dX7_declare_183 : decode cX7_declare 183 = .ok (.iastore, 1) := by decide +kernel
theorem dX7_declare_184 : decode cX7_declare 184 = .ok (.iload 4, 2) := by decide +kernel
theorem dX7_declare_186 : decode cX7_declare 186 = .ok (.ireturn, 1) := by decide +kernel
theorem dX7_old_0 : decode cX7_old 0 = .ok (.aload_n 0, 1) := by decide +kernel
theorem dX7_old_1 : decode cX7_old 1 = .ok (.getfield 13, 3) := by decide +kernel
theorem dX7_old_4 : decode cX7_old 4 = .ok (.bipush 50, 2) := by decide +kernel
theorem dX7_old_6 : decode cX7_old 6 = .ok (.aload_n 0, 1) := by decide +kernel
theorem dX7_old_7 : decode cX7_old 7 = .ok (.getfield 52, 3) := by decide +kernel
theorem dX7_old_10 : decode cX7_old 10 = .ok (.iconst 1, 1) := by decide +kernel
theorem dX7_old_11 : decode cX7_old 11 = .ok (.isub, 1) := by decide +kernel
theorem dX7_old_12 : decode cX7_old 12 = .ok (.imul, 1) := by decide +kernel
theorem dX7_old_13 : decode cX7_old 13 = .ok (.iload_n 1, 1) := by decide +kernel
theorem dX7_old_14 : decode cX7_old 14 = .ok (.iadd, 1) := by decide +kernel
theorem dX7_old_15 : decode cX7_old 15 = .ok (.iaload, 1) := by decide +kernel
theorem dX7_old_16 : decode cX7_old 16 = .ok (.ireturn, 1) := by decide +kernel
theorem dX7_renamed_0 : decode cX7_renamed 0 = .ok (.iconst 0, 1) := by decide +kernel
theorem dX7_renamed_1 : decode cX7_renamed 1 = .ok (.istore_n 3, 1) := by decide +kernel
theorem dX7_renamed_2 : decode cX7_renamed 2 = .ok (.iconst 0, 1) := by decide +kernel
theorem dX7_renamed_3 : decode cX7_renamed 3 = .ok (.istore 4, 2) := by decide +kernel
theorem dX7_renamed_5 : decode cX7_renamed 5 = .ok (.iload 4, 2) := by decide +kernel
theorem dX7_renamed_7 : decode cX7_renamed 7 = .ok (.iload_n 2, 1) := by decide +kernel
theorem dX7_renamed_8 : decode cX7_renamed 8 = .ok (.if_icmp .ge 34, 3) := by decide +kernel
theorem dX7_renamed_11 : decode cX7_renamed 11 = .ok (.iload_n 3, 1) := by decide +kernel
theorem dX7_renamed_12 : decode cX7_renamed 12 = .ok (.iload_n 1, 1) := by decide +kernel
theorem dX7_renamed_13 : decode cX7_renamed 13 = .ok (.aload_n 0, 1) := by decide +kernel
theorem dX7_renamed_14 : decode cX7_renamed 14 = .ok (.getfield 22, 3) := by decide +kernel
theorem dX7_renamed_17 : decode cX7_renamed 17 = .ok (.iload 4, 2) := by decide +kernel
theorem dX7_renamed_19 : decode cX7_renamed 19 = .ok (.iaload, 1) := by decide +kernel
theorem dX7_renamed_20 : decode cX7_renamed 20 = .ok (.invokestatic 89, 3) := by decide +kernel
theorem dX7_renamed_23 : decode cX7_renamed 23 = .ok (.ifCond .eq 10, 3) := by decide +kernel
theorem dX7_renamed_26 : decode cX7_renamed 26 = .ok (.iconst 1, 1) := by decide +kernel
theorem dX7_renamed_27 : decode cX7_renamed 27 = .ok (.iload 4, 2) := by decide +kernel
theorem dX7_renamed_29 : decode cX7_renamed 29 = .ok (.ishl, 1) := by decide +kernel
theorem dX7_renamed_30 : decode cX7_renamed 30 = .ok (.goto 4, 3) := by decide +kernel
theorem dX7_renamed_33 : decode cX7_renamed 33 = .ok (.iconst 0, 1) := by decide +kernel
theorem dX7_renamed_34 : decode cX7_renamed 34 = .ok (.ior, 1) := by decide +kernel
theorem dX7_renamed_35 : decode cX7_renamed 35 = .ok (.istore_n 3, 1) := by decide +kernel
theorem dX7_renamed_36 : decode cX7_renamed 36 = .ok (.iinc 4 1, 3) := by decide +kernel
theorem dX7_renamed_39 : decode cX7_renamed 39 = .ok (.goto (-34), 3) := by decide +kernel
theorem dX7_renamed_42 : decode cX7_renamed 42 = .ok (.iload_n 3, 1) := by decide +kernel
theorem dX7_renamed_43 : decode cX7_renamed 43 = .ok (.ireturn, 1) := by decide +kernel
theorem dX7_arrange_0 : decode cX7_arrange 0 = .ok (.iconst 0, 1) := by decide +kernel
theorem dX7_arrange_1 : decode cX7_arrange 1 = .ok (.istore_n 2, 1) := by decide +kernel
theorem dX7_arrange_2 : decode cX7_arrange 2 = .ok (.iload_n 2, 1) := by decide +kernel
theorem dX7_arrange_3 : decode cX7_arrange 3 = .ok (.iload_n 1, 1) := by decide +kernel
theorem dX7_arrange_4 : decode cX7_arrange 4 = .ok (.if_icmp .ge 146, 3) := by decide +kernel
theorem dX7_arrange_7 : decode cX7_arrange 7 = .ok (.aload_n 0, 1) := by decide +kernel
theorem dX7_arrange_8 : decode cX7_arrange 8 = .ok (.getfield 22, 3) := by decide +kernel
theorem dX7_arrange_11 : decode cX7_arrange 11 = .ok (.iload_n 2, 1) := by decide +kernel
theorem dX7_arrange_12 : decode cX7_arrange 12 = .ok (.iaload, 1) := by decide +kernel
theorem dX7_arrange_13 : decode cX7_arrange 13 = .ok (.istore_n 3, 1) := by decide +kernel
theorem dX7_arrange_14 : decode cX7_arrange 14 = .ok (.iconst 0, 1) := by decide +kernel
theorem dX7_arrange_15 : decode cX7_arrange 15 = .ok (.istore 4, 2) := by decide +kernel
theorem dX7_arrange_17 : decode cX7_arrange 17 = .ok (.iload 4, 2) := by decide +kernel
theorem dX7_arrange_19 : decode cX7_arrange 19 = .ok (.iconst 3, 1) := by decide +kernel
theorem dX7_arrange_20 : decode cX7_arrange 20 = .ok (.if_icmp .ge 34, 3) := by decide +kernel
theorem dX7_arrange_23 : decode cX7_arrange 23 = .ok (.aload_n 0, 1) := by decide +kernel
theorem dX7_arrange_24 : decode cX7_arrange 24 = .ok (.getfield 7, 3) := by decide +kernel
theorem dX7_arrange_27 : decode cX7_arrange 27 = .ok (.iconst 2, 1) := by decide +kernel
theorem dX7_arrange_28 : decode cX7_arrange 28 = .ok (.iconst 3, 1) := by decide +kernel
theorem dX7_arrange_29 : decode cX7_arrange 29 = .ok (.iload_n 2, 1) := by decide +kernel
theorem dX7_arrange_30 : decode cX7_arrange 30 = .ok (.imul, 1) := by decide +kernel
theorem dX7_arrange_31 : decode cX7_arrange 31 = .ok (.iadd, 1) := by decide +kernel
theorem dX7_arrange_32 : decode cX7_arrange 32 = .ok (.iload 4, 2) := by decide +kernel
theorem dX7_arrange_34 : decode cX7_arrange 34 = .ok (.iadd, 1) := by decide +kernel
theorem dX7_arrange_35 : decode cX7_arrange 35 = .ok (.aload_n 0, 1) := by decide +kernel
theorem dX7_arrange_36 : decode cX7_arrange 36 = .ok (.iconst 2, 1) := by decide +kernel
theorem dX7_arrange_37 : decode cX7_arrange 37 = .ok (.iconst 3, 1) := by decide +kernel
theorem dX7_arrange_38 : decode cX7_arrange 38 = .ok (.iload_n 3, 1) := by decide +kernel
theorem dX7_arrange_39 : decode cX7_arrange 39 = .ok (.imul, 1) := by decide +kernel
theorem dX7_arrange_40 : decode cX7_arrange 40 = .ok (.iadd, 1) := by decide +kernel
theorem dX7_arrange_41 : decode cX7_arrange 41 = .ok (.iload 4, 2) := by decide +kernel
theorem dX7_arrange_43 : decode cX7_arrange 43 = .ok (.iadd, 1) := by decide +kernel
theorem dX7_arrange_44 : decode cX7_arrange 44 = .ok (.invokevirtual 93, 3) := by decide +kernel
theorem dX7_arrange_47 : decode cX7_arrange 47 = .ok (.iastore, 1) := by decide +kernel
theorem dX7_arrange_48 : decode cX7_arrange 48 = .ok (.iinc 4 1, 3) := by decide +kernel
theorem dX7_arrange_51 : decode cX7_arrange 51 = .ok (.goto (-34), 3) := by decide +kernel
theorem dX7_arrange_54 : decode cX7_arrange 54 = .ok (.aload_n 0, 1) := by decide +kernel
theorem dX7_arrange_55 : decode cX7_arrange 55 = .ok (.getfield 7, 3) := by decide +kernel
theorem dX7_arrange_58 : decode cX7_arrange 58 = .ok (.bipush 20, 2) := by decide +kernel
theorem dX7_arrange_60 : decode cX7_arrange 60 = .ok (.iload_n 2, 1) := by decide +kernel
theorem dX7_arrange_61 : decode cX7_arrange 61 = .ok (.iadd, 1) := by decide +kernel
theorem dX7_arrange_62 : decode cX7_arrange 62 = .ok (.aload_n 0, 1) := by decide +kernel
theorem dX7_arrange_63 : decode cX7_arrange 63 = .ok (.bipush 20, 2) := by decide +kernel
theorem dX7_arrange_65 : decode cX7_arrange 65 = .ok (.iload_n 3, 1) := by decide +kernel
theorem dX7_arrange_66 : decode cX7_arrange 66 = .ok (.iadd, 1) := by decide +kernel
theorem dX7_arrange_67 : decode cX7_arrange 67 = .ok (.invokevirtual 93, 3) := by decide +kernel
theorem dX7_arrange_70 : decode cX7_arrange 70 = .ok (.iastore, 1) := by decide +kernel
theorem dX7_arrange_71 : decode cX7_arrange 71 = .ok (.aload_n 0, 1) := by decide +kernel
theorem dX7_arrange_72 : decode cX7_arrange 72 = .ok (.getfield 7, 3) := by decide +kernel
theorem dX7_arrange_75 : decode cX7_arrange 75 = .ok (.bipush 26, 2) := by decide +kernel
theorem dX7_arrange_77 : decode cX7_arrange 77 = .ok (.iload_n 2, 1) := by decide +kernel
theorem dX7_arrange_78 : decode cX7_arrange 78 = .ok (.iadd, 1) := by decide +kernel
theorem dX7_arrange_79 : decode cX7_arrange 79 = .ok (.aload_n 0, 1) := by decide +kernel
theorem dX7_arrange_80 : decode cX7_arrange 80 = .ok (.bipush 26, 2) := by decide +kernel
theorem dX7_arrange_82 : decode cX7_arrange 82 = .ok (.iload_n 3, 1) := by decide +kernel
theorem dX7_arrange_83 : decode cX7_arrange 83 = .ok (.iadd, 1) := by decide +kernel
theorem dX7_arrange_84 : decode cX7_arrange 84 = .ok (.invokevirtual 93, 3) := by decide +kernel
theorem dX7_arrange_87 : decode cX7_arrange 87 = .ok (.iastore, 1) := by decide +kernel
theorem dX7_arrange_88 : decode cX7_arrange 88 = .ok (.aload_n 0, 1) := by decide +kernel
theorem dX7_arrange_89 : decode cX7_arrange 89 = .ok (.getfield 7, 3) := by decide +kernel
theorem dX7_arrange_92 : decode cX7_arrange 92 = .ok (.bipush 32, 2) := by decide +kernel
theorem dX7_arrange_94 : decode cX7_arrange 94 = .ok (.iload_n 2, 1) := by decide +kernel
theorem dX7_arrange_95 : decode cX7_arrange 95 = .ok (.iadd, 1) := by decide +kernel
theorem dX7_arrange_96 : decode cX7_arrange 96 = .ok (.aload_n 0, 1) := by decide +kernel
theorem dX7_arrange_97 : decode cX7_arrange 97 = .ok (.bipush 32, 2) := by decide +kernel
theorem dX7_arrange_99 : decode cX7_arrange 99 = .ok (.iload_n 3, 1) := by decide +kernel
theorem dX7_arrange_100 : decode cX7_arrange 100 = .ok (.iadd, 1) := by decide +kernel
theorem dX7_arrange_101 : decode cX7_arrange 101 = .ok (.invokevirtual 93, 3) := by decide +kernel
theorem dX7_arrange_104 : decode cX7_arrange 104 = .ok (.iastore, 1) := by decide +kernel
theorem dX7_arrange_105 : decode cX7_arrange 105 = .ok (.aload_n 0, 1) := by decide +kernel
theorem dX7_arrange_106 : decode cX7_arrange 106 = .ok (.getfield 7, 3) := by decide +kernel
theorem dX7_arrange_109 : decode cX7_arrange 109 = .ok (.bipush 38, 2) := by decide +kernel
theorem dX7_arrange_111 : decode cX7_arrange 111 = .ok (.iload_n 2, 1) := by decide +kernel
theorem dX7_arrange_112 : decode cX7_arrange 112 = .ok (.iadd, 1) := by decide +kernel
theorem dX7_arrange_113 : decode cX7_arrange 113 = .ok (.aload_n 0, 1) := by decide +kernel
theorem dX7_arrange_114 : decode cX7_arrange 114 = .ok (.bipush 38, 2) := by decide +kernel
theorem dX7_arrange_116 : decode cX7_arrange 116 = .ok (.iload_n 3, 1) := by decide +kernel
theorem dX7_arrange_117 : decode cX7_arrange 117 = .ok (.iadd, 1) := by decide +kernel
theorem dX7_arrange_118 : decode cX7_arrange 118 = .ok (.invokevirtual 93, 3) := by decide +kernel
theorem dX7_arrange_121 : decode cX7_arrange 121 = .ok (.iastore, 1) := by decide +kernel
theorem dX7_arrange_122 : decode cX7_arrange 122 = .ok (.aload_n 0, 1) := by decide +kernel
theorem dX7_arrange_123 : decode cX7_arrange 123 = .ok (.getfield 7, 3) := by decide +kernel
theorem dX7_arrange_126 : decode cX7_arrange 126 = .ok (.bipush 44, 2) := by decide +kernel
theorem dX7_arrange_128 : decode cX7_arrange 128 = .ok (.iload_n 2, 1) := by decide +kernel
theorem dX7_arrange_129 : decode cX7_arrange 129 = .ok (.iadd, 1) := by decide +kernel
theorem dX7_arrange_130 : decode cX7_arrange 130 = .ok (.aload_n 0, 1) := by decide +kernel
theorem dX7_arrange_131 : decode cX7_arrange 131 = .ok (.aload_n 0, 1) := by decide +kernel
theorem dX7_arrange_132 : decode cX7_arrange 132 = .ok (.bipush 44, 2) := by decide +kernel
theorem dX7_arrange_134 : decode cX7_arrange 134 = .ok (.iload_n 3, 1) := by decide +kernel
theorem dX7_arrange_135 : decode cX7_arrange 135 = .ok (.iadd, 1) := by decide +kernel
theorem dX7_arrange_136 : decode cX7_arrange 136 = .ok (.invokevirtual 93, 3) := by decide +kernel
theorem dX7_arrange_139 : decode cX7_arrange 139 = .ok (.iload_n 1, 1) := by decide +kernel
theorem dX7_arrange_140 : decode cX7_arrange 140 = .ok (.invokevirtual 96, 3) := by decide +kernel
theorem dX7_arrange_143 : decode cX7_arrange 143 = .ok (.iastore, 1) := by decide +kernel
theorem dX7_arrange_144 : decode cX7_arrange 144 = .ok (.iinc 2 1, 3) := by decide +kernel
theorem dX7_arrange_147 : decode cX7_arrange 147 = .ok (.goto (-145), 3) := by decide +kernel
theorem dX7_arrange_150 : decode cX7_arrange 150 = .ok (.aload_n 0, 1) := by decide +kernel
theorem dX7_arrange_151 : decode cX7_arrange 151 = .ok (.getfield 7, 3) := by decide +kernel
theorem dX7_arrange_154 : decode cX7_arrange 154 = .ok (.iconst 0, 1) := by decide +kernel
theorem dX7_arrange_155 : decode cX7_arrange 155 = .ok (.iload_n 1, 1) := by decide +kernel
theorem dX7_arrange_156 : decode cX7_arrange 156 = .ok (.iastore, 1) := by decide +kernel
theorem dX7_arrange_157 : decode cX7_arrange 157 = .ok (.return_, 1) := by decide +kernel
theorem dX7_remove_0 : decode cX7_remove 0 = .ok (.aload_n 0, 1) := by decide +kernel
theorem dX7_remove_1 : decode cX7_remove 1 = .ok (.iload_n 1, 1) := by decide +kernel
theorem dX7_remove_2 : decode cX7_remove 2 = .ok (.invokevirtual 99, 3) := by decide +kernel
theorem dX7_remove_5 : decode cX7_remove 5 = .ok (.ifCond .ne 5, 3) := by decide +kernel
theorem dX7_remove_8 : decode cX7_remove 8 = .ok (.iconst (-1), 1) := by decide +kernel
theorem dX7_remove_9 : decode cX7_remove 9 = .ok (.ireturn, 1) := by decide +kernel
theorem dX7_remove_10 : decode cX7_remove 10 = .ok (.aload_n 0, 1) := by decide +kernel
theorem dX7_remove_11 : decode cX7_remove 11 = .ok (.invokevirtual 86, 3) := by decide +kernel
theorem dX7_remove_14 : decode cX7_remove 14 = .ok (.aload_n 0, 1) := by decide +kernel
theorem dX7_remove_15 : decode cX7_remove 15 = .ok (.getfield 7, 3) := by decide +kernel
theorem dX7_remove_18 : decode cX7_remove 18 = .ok (.iconst 0, 1) := by decide +kernel
theorem dX7_remove_19 : decode cX7_remove 19 = .ok (.iaload, 1) := by decide +kernel
theorem dX7_remove_20 : decode cX7_remove 20 = .ok (.iconst 1, 1) := by decide +kernel
theorem dX7_remove_21 : decode cX7_remove 21 = .ok (.isub, 1) := by decide +kernel
theorem dX7_remove_22 : decode cX7_remove 22 = .ok (.istore_n 2, 1) := by decide +kernel
theorem dX7_remove_23 : decode cX7_remove 23 = .ok (.iconst 0, 1) := by decide +kernel
theorem dX7_remove_24 : decode cX7_remove 24 = .ok (.istore_n 3, 1) := by decide +kernel
theorem dX7_remove_25 : decode cX7_remove 25 = .ok (.iload_n 3, 1) := by decide +kernel
theorem dX7_remove_26 : decode cX7_remove 26 = .ok (.iload_n 2, 1) := by decide +kernel
theorem dX7_remove_27 : decode cX7_remove 27 = .ok (.if_icmp .ge 27, 3) := by decide +kernel
theorem dX7_remove_30 : decode cX7_remove 30 = .ok (.aload_n 0, 1) := by decide +kernel
theorem dX7_remove_31 : decode cX7_remove 31 = .ok (.getfield 22, 3) := by decide +kernel
theorem dX7_remove_34 : decode cX7_remove 34 = .ok (.iload_n 3, 1) := by decide +kernel
theorem dX7_remove_35 : decode cX7_remove 35 = .ok (.iload_n 3, 1) := by decide +kernel
theorem dX7_remove_36 : decode cX7_remove 36 = .ok (.iload_n 1, 1) := by decide +kernel
theorem dX7_remove_37 : decode cX7_remove 37 = .ok (.if_icmp .ge 7, 3) := by decide +kernel
theorem dX7_remove_40 : decode cX7_remove 40 = .ok (.iload_n 3, 1) := by decide +kernel
theorem dX7_remove_41 : decode cX7_remove 41 = .ok (.goto 6, 3) := by decide +kernel
theorem dX7_remove_44 : decode cX7_remove 44 = .ok (.iload_n 3, 1) := by decide +kernel
theorem dX7_remove_45 : decode cX7_remove 45 = .ok (.iconst 1, 1) := by decide +kernel
theorem dX7_remove_46 : decode cX7_remove 46 = .ok (.iadd, 1) := by decide +kernel
theorem dX7_remove_47 : decode cX7_remove 47 = .ok (.iastore, 1) := by decide +kernel
theorem dX7_remove_48 : decode cX7_remove 48 = .ok (.iinc 3 1, 3) := by decide +kernel
theorem dX7_remove_51 : decode cX7_remove 51 = .ok (.goto (-26), 3) := by decide +kernel
theorem dX7_remove_54 : decode cX7_remove 54 = .ok (.aload_n 0, 1) := by decide +kernel
theorem dX7_remove_55 : decode cX7_remove 55 = .ok (.iload_n 2, 1) := by decide +kernel
theorem dX7_remove_56 : decode cX7_remove 56 = .ok (.invokevirtual 102, 3) := by decide +kernel
theorem dX7_remove_59 : decode cX7_remove 59 = .ok (.iload_n 2, 1) := by decide +kernel
theorem dX7_remove_60 : decode cX7_remove 60 = .ok (.ireturn, 1) := by decide +kernel
theorem dX7_set_0 : decode cX7_set 0 = .ok (.aload_n 0, 1) := by decide +kernel
theorem dX7_set_1 : decode cX7_set 1 = .ok (.iload_n 1, 1) := by decide +kernel
theorem dX7_set_2 : decode cX7_set 2 = .ok (.invokevirtual 99, 3) := by decide +kernel
theorem dX7_set_5 : decode cX7_set 5 = .ok (.ifCond .eq 12, 3) := by decide +kernel
theorem dX7_set_8 : decode cX7_set 8 = .ok (.iload_n 2, 1) := by decide +kernel
theorem dX7_set_9 : decode cX7_set 9 = .ok (.iconst 0, 1) := by decide +kernel
theorem dX7_set_10 : decode cX7_set 10 = .ok (.iconst 3, 1) := by decide +kernel
theorem dX7_set_11 : decode cX7_set 11 = .ok (.invokestatic 60, 3) := by decide +kernel
theorem dX7_set_14 : decode cX7_set 14 = .ok (.ifCond .ne 5, 3) := by decide +kernel
theorem dX7_set_17 : decode cX7_set 17 = .ok (.iconst (-1), 1) := by decide +kernel
theorem dX7_set_18 : decode cX7_set 18 = .ok (.ireturn, 1) := by decide +kernel
theorem dX7_set_19 : decode cX7_set 19 = .ok (.iload_n 2, 1) := by decide +kernel
theorem dX7_set_20 : decode cX7_set 20 = .ok (.ifCond .ne 12, 3) := by decide +kernel
theorem dX7_set_23 : decode cX7_set 23 = .ok (.iload_n 3, 1) := by decide +kernel
theorem dX7_set_24 : decode cX7_set 24 = .ok (.iconst 0, 1) := by decide +kernel
theorem dX7_set_25 : decode cX7_set 25 = .ok (.iconst 2, 1) := by decide +kernel
theorem dX7_set_26 : decode cX7_set 26 = .ok (.invokestatic 60, 3) := by decide +kernel
theorem dX7_set_29 : decode cX7_set 29 = .ok (.goto 68, 3) := by decide +kernel
theorem dX7_set_32 : decode cX7_set 32 = .ok (.iload_n 2, 1) := by decide +kernel
theorem dX7_set_33 : decode cX7_set 33 = .ok (.iconst 1, 1) := by decide +kernel
theorem dX7_set_34 : decode cX7_set 34 = .ok (.if_icmp .ne 20, 3) := by decide +kernel
theorem dX7_set_37 : decode cX7_set 37 = .ok (.iload_n 3, 1) := by decide +kernel
theorem dX7_set_38 : decode cX7_set 38 = .ok (.iconst 0, 1) := by decide +kernel
theorem dX7_set_39 : decode cX7_set 39 = .ok (.aload_n 0, 1) := by decide +kernel
theorem dX7_set_40 : decode cX7_set 40 = .ok (.getfield 7, 3) := by decide +kernel
theorem dX7_set_43 : decode cX7_set 43 = .ok (.bipush 32, 2) := by decide +kernel
theorem dX7_set_45 : decode cX7_set 45 = .ok (.iload_n 1, 1) := by decide +kernel
theorem dX7_set_46 : decode cX7_set 46 = .ok (.iadd, 1) := by decide +kernel
theorem dX7_set_47 : decode cX7_set 47 = .ok (.iaload, 1) := by decide +kernel
theorem dX7_set_48 : decode cX7_set 48 = .ok (.invokestatic 60, 3) := by decide +kernel
theorem dX7_set_51 : decode cX7_set 51 = .ok (.goto 46, 3) := by decide +kernel
theorem dX7_set_54 : decode cX7_set 54 = .ok (.iload_n 2, 1) := by decide +kernel
theorem dX7_set_55 : decode cX7_set 55 = .ok (.iconst 2, 1) := by decide +kernel
theorem dX7_set_56 : decode cX7_set 56 = .ok (.if_icmp .ne 33, 3) := by decide +kernel
theorem dX7_set_59 : decode cX7_set 59 = .ok (.iload_n 3, 1) := by decide +kernel
theorem dX7_set_60 : decode cX7_set 60 = .ok (.iconst 1, 1) := by decide +kernel
theorem dX7_set_61 : decode cX7_set 61 = .ok (.iconst 3, 1) := by decide +kernel
theorem dX7_set_62 : decode cX7_set 62 = .ok (.invokestatic 60, 3) := by decide +kernel
theorem dX7_set_65 : decode cX7_set 65 = .ok (.ifCond .eq 20, 3) := by decide +kernel
theorem dX7_set_68 : decode cX7_set 68 = .ok (.iload_n 3, 1) := by decide +kernel
theorem dX7_set_69 : decode cX7_set 69 = .ok (.aload_n 0, 1) := by decide +kernel
theorem dX7_set_70 : decode cX7_set 70 = .ok (.getfield 7, 3) := by decide +kernel
theorem dX7_set_73 : decode cX7_set 73 = .ok (.bipush 26, 2) := by decide +kernel
theorem dX7_set_75 : decode cX7_set 75 = .ok (.iload_n 1, 1) := by decide +kernel
theorem dX7_set_76 : decode cX7_set 76 = .ok (.iadd, 1) := by decide +kernel
theorem dX7_set_77 : decode cX7_set 77 = .ok (.iaload, 1) := by decide +kernel
theorem dX7_set_78 : decode cX7_set 78 = .ok (.if_icmp .lt 7, 3) := by decide +kernel
theorem dX7_set_81 : decode cX7_set 81 = .ok (.iconst 1, 1) := by decide +kernel
theorem dX7_set_82 : decode cX7_set 82 = .ok (.goto 15, 3) := by decide +kernel
theorem dX7_set_85 : decode cX7_set 85 = .ok (.iconst 0, 1) := by decide +kernel
theorem dX7_set_86 : decode cX7_set 86 = .ok (.goto 11, 3) := by decide +kernel
theorem dX7_set_89 : decode cX7_set 89 = .ok (.iload_n 3, 1) := by decide +kernel
theorem dX7_set_90 : decode cX7_set 90 = .ok (.iconst 0, 1) := by decide +kernel
theorem dX7_set_91 : decode cX7_set 91 = .ok (.sipush 999, 3) := by decide +kernel
theorem dX7_set_94 : decode cX7_set 94 = .ok (.invokestatic 60, 3) := by decide +kernel
theorem dX7_set_97 : decode cX7_set 97 = .ok (.istore 4, 2) := by decide +kernel
theorem dX7_set_99 : decode cX7_set 99 = .ok (.iload 4, 2) := by decide +kernel
theorem dX7_set_101 : decode cX7_set 101 = .ok (.ifCond .ne 5, 3) := by decide +kernel
theorem dX7_set_104 : decode cX7_set 104 = .ok (.iconst (-1), 1) := by decide +kernel
theorem dX7_set_105 : decode cX7_set 105 = .ok (.ireturn, 1) := by decide +kernel
theorem dX7_set_106 : decode cX7_set 106 = .ok (.aload_n 0, 1) := by decide +kernel
theorem dX7_set_107 : decode cX7_set 107 = .ok (.invokevirtual 86, 3) := by decide +kernel
theorem dX7_set_110 : decode cX7_set 110 = .ok (.bipush 20, 2) := by decide +kernel
theorem dX7_set_112 : decode cX7_set 112 = .ok (.bipush 6, 2) := by decide +kernel
theorem dX7_set_114 : decode cX7_set 114 = .ok (.iload_n 2, 1) := by decide +kernel
theorem dX7_set_115 : decode cX7_set 115 = .ok (.imul, 1) := by decide +kernel
theorem dX7_set_116 : decode cX7_set 116 = .ok (.iadd, 1) := by decide +kernel
theorem dX7_set_117 : decode cX7_set 117 = .ok (.iload_n 1, 1) := by decide +kernel
theorem dX7_set_118 : decode cX7_set 118 = .ok (.iadd, 1) := by decide +kernel
theorem dX7_set_119 : decode cX7_set 119 = .ok (.istore 5, 2) := by decide +kernel
theorem dX7_set_121 : decode cX7_set 121 = .ok (.aload_n 0, 1) := by decide +kernel
theorem dX7_set_122 : decode cX7_set 122 = .ok (.getfield 7, 3) := by decide +kernel
theorem dX7_set_125 : decode cX7_set 125 = .ok (.iload 5, 2) := by decide +kernel
theorem dX7_set_127 : decode cX7_set 127 = .ok (.iaload, 1) := by decide +kernel
theorem dX7_set_128 : decode cX7_set 128 = .ok (.istore 6, 2) := by decide +kernel
theorem dX7_set_130 : decode cX7_set 130 = .ok (.aload_n 0, 1) := by decide +kernel
theorem dX7_set_131 : decode cX7_set 131 = .ok (.getfield 7, 3) := by decide +kernel
theorem dX7_set_134 : decode cX7_set 134 = .ok (.iload 5, 2) := by decide +kernel
theorem dX7_set_136 : decode cX7_set 136 = .ok (.iload_n 3, 1) := by decide +kernel
theorem dX7_set_137 : decode cX7_set 137 = .ok (.iastore, 1) := by decide +kernel
theorem dX7_set_138 : decode cX7_set 138 = .ok (.iload 6, 2) := by decide +kernel
theorem dX7_set_140 : decode cX7_set 140 = .ok (.ireturn, 1) := by decide +kernel
theorem dX7_move_0 : decode cX7_move 0 = .ok (.aload_n 0, 1) := by decide +kernel
theorem dX7_move_1 : decode cX7_move 1 = .ok (.iload_n 1, 1) := by decide +kernel
theorem dX7_move_2 : decode cX7_move 2 = .ok (.invokevirtual 99, 3) := by decide +kernel
theorem dX7_move_5 : decode cX7_move 5 = .ok (.ifCond .eq 11, 3) := by decide +kernel
theorem dX7_move_8 : decode cX7_move 8 = .ok (.aload_n 0, 1) := by decide +kernel
theorem dX7_move_9 : decode cX7_move 9 = .ok (.iload_n 2, 1) := by decide +kernel
theorem dX7_move_10 : decode cX7_move 10 = .ok (.invokevirtual 99, 3) := by decide +kernel
theorem dX7_move_13 : decode cX7_move 13 = .ok (.ifCond .ne 5, 3) := by decide +kernel
theorem dX7_move_16 : decode cX7_move 16 = .ok (.iconst (-1), 1) := by decide +kernel
theorem dX7_move_17 : decode cX7_move 17 = .ok (.ireturn, 1) := by decide +kernel
theorem dX7_move_18 : decode cX7_move 18 = .ok (.aload_n 0, 1) := by decide +kernel
theorem dX7_move_19 : decode cX7_move 19 = .ok (.invokevirtual 86, 3) := by decide +kernel
theorem dX7_move_22 : decode cX7_move 22 = .ok (.iconst 0, 1) := by decide +kernel
theorem dX7_move_23 : decode cX7_move 23 = .ok (.istore_n 3, 1) := by decide +kernel
theorem dX7_move_24 : decode cX7_move 24 = .ok (.iconst 0, 1) := by decide +kernel
theorem dX7_move_25 : decode cX7_move 25 = .ok (.istore 4, 2) := by decide +kernel
theorem dX7_move_27 : decode cX7_move 27 = .ok (.iload 4, 2) := by decide +kernel
theorem dX7_move_29 : decode cX7_move 29 = .ok (.aload_n 0, 1) := by decide +kernel
theorem dX7_move_30 : decode cX7_move 30 = .ok (.getfield 7, 3) := by decide +kernel
theorem dX7_move_33 : decode cX7_move 33 = .ok (.iconst 0, 1) := by decide +kernel
theorem dX7_move_34 : decode cX7_move 34 = .ok (.iaload, 1) := by decide +kernel
theorem dX7_move_35 : decode cX7_move 35 = .ok (.if_icmp .ge 49, 3) := by decide +kernel
theorem dX7_move_38 : decode cX7_move 38 = .ok (.iload_n 3, 1) := by decide +kernel
theorem dX7_move_39 : decode cX7_move 39 = .ok (.iload_n 1, 1) := by decide +kernel
theorem dX7_move_40 : decode cX7_move 40 = .ok (.if_icmp .ne 6, 3) := by decide +kernel
theorem dX7_move_43 : decode cX7_move 43 = .ok (.iinc 3 1, 3) := by decide +kernel
theorem dX7_move_46 : decode cX7_move 46 = .ok (.aload_n 0, 1) := by decide +kernel
theorem dX7_move_47 : decode cX7_move 47 = .ok (.getfield 22, 3) := by decide +kernel
theorem dX7_move_50 : decode cX7_move 50 = .ok (.iload 4, 2) := by decide +kernel
theorem dX7_move_52 : decode cX7_move 52 = .ok (.iload 4, 2) := by decide +kernel
theorem dX7_move_54 : decode cX7_move 54 = .ok (.iload_n 2, 1) := by decide +kernel
theorem dX7_move_55 : decode cX7_move 55 = .ok (.if_icmp .ne 7, 3) := by decide +kernel
theorem dX7_move_58 : decode cX7_move 58 = .ok (.iload_n 1, 1) := by decide +kernel
theorem dX7_move_59 : decode cX7_move 59 = .ok (.goto 4, 3) := by decide +kernel
theorem dX7_move_62 : decode cX7_move 62 = .ok (.iload_n 3, 1) := by decide +kernel
theorem dX7_move_63 : decode cX7_move 63 = .ok (.iastore, 1) := by decide +kernel
theorem dX7_move_64 : decode cX7_move 64 = .ok (.iload_n 3, 1) := by decide +kernel
theorem dX7_move_65 : decode cX7_move 65 = .ok (.iload 4, 2) := by decide +kernel
theorem dX7_move_67 : decode cX7_move 67 = .ok (.iload_n 2, 1) := by decide +kernel
theorem dX7_move_68 : decode cX7_move 68 = .ok (.if_icmp .ne 7, 3) := by decide +kernel
theorem dX7_move_71 : decode cX7_move 71 = .ok (.iconst 0, 1) := by decide +kernel
theorem dX7_move_72 : decode cX7_move 72 = .ok (.goto 4, 3) := by decide +kernel
theorem dX7_move_75 : decode cX7_move 75 = .ok (.iconst 1, 1) := by decide +kernel
theorem dX7_move_76 : decode cX7_move 76 = .ok (.iadd, 1) := by decide +kernel
theorem dX7_move_77 : decode cX7_move 77 = .ok (.istore_n 3, 1) := by decide +kernel
theorem dX7_move_78 : decode cX7_move 78 = .ok (.iinc 4 1, 3) := by decide +kernel
theorem dX7_move_81 : decode cX7_move 81 = .ok (.goto (-54), 3) := by decide +kernel
theorem dX7_move_84 : decode cX7_move 84 = .ok (.aload_n 0, 1) := by decide +kernel
theorem dX7_move_85 : decode cX7_move 85 = .ok (.aload_n 0, 1) := by decide +kernel
theorem dX7_move_86 : decode cX7_move 86 = .ok (.getfield 7, 3) := by decide +kernel
theorem dX7_move_89 : decode cX7_move 89 = .ok (.iconst 0, 1) := by decide +kernel
theorem dX7_move_90 : decode cX7_move 90 = .ok (.iaload, 1) := by decide +kernel
theorem dX7_move_91 : decode cX7_move 91 = .ok (.invokevirtual 102, 3) := by decide +kernel
theorem dX7_move_94 : decode cX7_move 94 = .ok (.iload_n 2, 1) := by decide +kernel
theorem dX7_move_95 : decode cX7_move 95 = .ok (.ireturn, 1) := by decide +kernel
theorem dX7_setSeparator_0 : decode cX7_setSeparator 0 = .ok (.iload_n 1, 1) := by decide +kernel
theorem dX7_setSeparator_1 : decode cX7_setSeparator 1 = .ok (.ifCond .eq 16, 3) := by decide +kernel
theorem dX7_setSeparator_4 : decode cX7_setSeparator 4 = .ok (.iload_n 1, 1) := by decide +kernel
theorem dX7_setSeparator_5 : decode cX7_setSeparator 5 = .ok (.bipush 33, 2) := by decide +kernel
theorem dX7_setSeparator_7 : decode cX7_setSeparator 7 = .ok (.bipush 47, 2) := by decide +kernel
theorem dX7_setSeparator_9 : decode cX7_setSeparator 9 = .ok (.invokestatic 60, 3) := by decide +kernel
theorem dX7_setSeparator_12 : decode cX7_setSeparator 12 = .ok (.ifCond .ne 5, 3) := by decide +kernel
theorem dX7_setSeparator_15 : decode cX7_setSeparator 15 = .ok (.iconst (-1), 1) := by decide +kernel
theorem dX7_setSeparator_16 : decode cX7_setSeparator 16 = .ok (.ireturn, 1) := by decide +kernel
theorem dX7_setSeparator_17 : decode cX7_setSeparator 17 = .ok (.aload_n 0, 1) := by decide +kernel
theorem dX7_setSeparator_18 : decode cX7_setSeparator 18 = .ok (.invokevirtual 86, 3) := by decide +kernel
theorem dX7_setSeparator_21 : decode cX7_setSeparator 21 = .ok (.aload_n 0, 1) := by decide +kernel
theorem dX7_setSeparator_22 : decode cX7_setSeparator 22 = .ok (.getfield 7, 3) := by decide +kernel
theorem dX7_setSeparator_25 : decode cX7_setSeparator 25 = .ok (.iconst 1, 1) := by decide +kernel
theorem dX7_setSeparator_26 : decode cX7_setSeparator 26 = .ok (.iaload, 1) := by decide +kernel
theorem dX7_setSeparator_27 : decode cX7_setSeparator 27 = .ok (.istore_n 2, 1) := by decide +kernel
theorem dX7_setSeparator_28 : decode cX7_setSeparator 28 = .ok (.aload_n 0, 1) := by decide +kernel
theorem dX7_setSeparator_29 : decode cX7_setSeparator 29 = .ok (.getfield 7, 3) := by decide +kernel
theorem dX7_setSeparator_32 : decode cX7_setSeparator 32 = .ok (.iconst 1, 1) := by decide +kernel
theorem dX7_setSeparator_33 : decode cX7_setSeparator 33 = .ok (.iload_n 1, 1) := by decide +kernel
theorem dX7_setSeparator_34 : decode cX7_setSeparator 34 = .ok (.iastore, 1) := by decide +kernel
theorem dX7_setSeparator_35 : decode cX7_setSeparator 35 = .ok (.iload_n 2, 1) := by decide +kernel
theorem dX7_setSeparator_36 : decode cX7_setSeparator 36 = .ok (.ireturn, 1) := by decide +kernel
theorem dX7_rule_0 : decode cX7_rule 0 = .ok (.aload_n 0, 1) := by decide +kernel
theorem dX7_rule_1 : decode cX7_rule 1 = .ok (.iload_n 1, 1) := by decide +kernel
theorem dX7_rule_2 : decode cX7_rule 2 = .ok (.invokevirtual 99, 3) := by decide +kernel
theorem dX7_rule_5 : decode cX7_rule 5 = .ok (.ifCond .eq 25, 3) := by decide +kernel
theorem dX7_rule_8 : decode cX7_rule 8 = .ok (.aload_n 0, 1) := by decide +kernel
theorem dX7_rule_9 : decode cX7_rule 9 = .ok (.iload_n 2, 1) := by decide +kernel
theorem dX7_rule_10 : decode cX7_rule 10 = .ok (.invokevirtual 99, 3) := by decide +kernel
theorem dX7_rule_13 : decode cX7_rule 13 = .ok (.ifCond .eq 17, 3) := by decide +kernel
theorem dX7_rule_16 : decode cX7_rule 16 = .ok (.iload_n 1, 1) := by decide +kernel
theorem dX7_rule_17 : decode cX7_rule 17 = .ok (.iload_n 2, 1) := by decide +kernel
theorem dX7_rule_18 : decode cX7_rule 18 = .ok (.if_icmp .eq 12, 3) := by decide +kernel
theorem dX7_rule_21 : decode cX7_rule 21 = .ok (.iload_n 3, 1) := by decide +kernel
theorem dX7_rule_22 : decode cX7_rule 22 = .ok (.iconst 0, 1) := by decide +kernel
theorem dX7_rule_23 : decode cX7_rule 23 = .ok (.iconst 1, 1) := by decide +kernel
theorem dX7_rule_24 : decode cX7_rule 24 = .ok (.invokestatic 60, 3) := by decide +kernel
theorem dX7_rule_27 : decode cX7_rule 27 = .ok (.ifCond .ne 5, 3) := by decide +kernel
theorem dX7_rule_30 : decode cX7_rule 30 = .ok (.iconst (-1), 1) := by decide +kernel
theorem dX7_rule_31 : decode cX7_rule 31 = .ok (.ireturn, 1) := by decide +kernel
theorem dX7_rule_32 : decode cX7_rule 32 = .ok (.aload_n 0, 1) := by decide +kernel
theorem dX7_rule_33 : decode cX7_rule 33 = .ok (.invokevirtual 86, 3) := by decide +kernel
theorem dX7_rule_36 : decode cX7_rule 36 = .ok (.aload_n 0, 1) := by decide +kernel
theorem dX7_rule_37 : decode cX7_rule 37 = .ok (.getfield 7, 3) := by decide +kernel
theorem dX7_rule_40 : decode cX7_rule 40 = .ok (.bipush 44, 2) := by decide +kernel
theorem dX7_rule_42 : decode cX7_rule 42 = .ok (.iload_n 1, 1) := by decide +kernel
theorem dX7_rule_43 : decode cX7_rule 43 = .ok (.iadd, 1) := by decide +kernel
theorem dX7_rule_44 : decode cX7_rule 44 = .ok (.iaload, 1) := by decide +kernel
theorem dX7_rule_45 : decode cX7_rule 45 = .ok (.iload_n 2, 1) := by decide +kernel
theorem dX7_rule_46 : decode cX7_rule 46 = .ok (.invokestatic 89, 3) := by decide +kernel
theorem dX7_rule_49 : decode cX7_rule 49 = .ok (.ifCond .eq 7, 3) := by decide +kernel
theorem dX7_rule_52 : decode cX7_rule 52 = .ok (.iconst 1, 1) := by decide +kernel
theorem dX7_rule_53 : decode cX7_rule 53 = .ok (.goto 4, 3) := by decide +kernel
theorem dX7_rule_56 : decode cX7_rule 56 = .ok (.iconst 0, 1) := by decide +kernel
theorem dX7_rule_57 : decode cX7_rule 57 = .ok (.istore 4, 2) := by decide +kernel
theorem dX7_rule_59 : decode cX7_rule 59 = .ok (.aload_n 0, 1) := by decide +kernel
theorem dX7_rule_60 : decode cX7_rule 60 = .ok (.getfield 7, 3) := by decide +kernel
theorem dX7_rule_63 : decode cX7_rule 63 = .ok (.bipush 44, 2) := by decide +kernel
theorem dX7_rule_65 : decode cX7_rule 65 = .ok (.iload_n 1, 1) := by decide +kernel
theorem dX7_rule_66 : decode cX7_rule 66 = .ok (.iadd, 1) := by decide +kernel
theorem dX7_rule_67 : decode cX7_rule 67 = .ok (.iload_n 3, 1) := by decide +kernel
theorem dX7_rule_68 : decode cX7_rule 68 = .ok (.iconst 1, 1) := by decide +kernel
theorem dX7_rule_69 : decode cX7_rule 69 = .ok (.if_icmp .ne 19, 3) := by decide +kernel
theorem dX7_rule_72 : decode cX7_rule 72 = .ok (.aload_n 0, 1) := by decide +kernel
theorem dX7_rule_73 : decode cX7_rule 73 = .ok (.getfield 7, 3) := by decide +kernel
theorem dX7_rule_76 : decode cX7_rule 76 = .ok (.bipush 44, 2) := by decide +kernel
theorem dX7_rule_78 : decode cX7_rule 78 = .ok (.iload_n 1, 1) := by decide +kernel
theorem dX7_rule_79 : decode cX7_rule 79 = .ok (.iadd, 1) := by decide +kernel
theorem dX7_rule_80 : decode cX7_rule 80 = .ok (.iaload, 1) := by decide +kernel
theorem dX7_rule_81 : decode cX7_rule 81 = .ok (.iconst 1, 1) := by decide +kernel
theorem dX7_rule_82 : decode cX7_rule 82 = .ok (.iload_n 2, 1) := by decide +kernel
theorem dX7_rule_83 : decode cX7_rule 83 = .ok (.ishl, 1) := by decide +kernel
theorem dX7_rule_84 : decode cX7_rule 84 = .ok (.ior, 1) := by decide +kernel
theorem dX7_rule_85 : decode cX7_rule 85 = .ok (.goto 18, 3) := by decide +kernel
theorem dX7_rule_88 : decode cX7_rule 88 = .ok (.aload_n 0, 1) := by decide +kernel
theorem dX7_rule_89 : decode cX7_rule 89 = .ok (.getfield 7, 3) := by decide +kernel
theorem dX7_rule_92 : decode cX7_rule 92 = .ok (.bipush 44, 2) := by decide +kernel
theorem dX7_rule_94 : decode cX7_rule 94 = .ok (.iload_n 1, 1) := by decide +kernel
theorem dX7_rule_95 : decode cX7_rule 95 = .ok (.iadd, 1) := by decide +kernel
theorem dX7_rule_96 : decode cX7_rule 96 = .ok (.iaload, 1) := by decide +kernel
theorem dX7_rule_97 : decode cX7_rule 97 = .ok (.iconst 1, 1) := by decide +kernel
theorem dX7_rule_98 : decode cX7_rule 98 = .ok (.iload_n 2, 1) := by decide +kernel
theorem dX7_rule_99 : decode cX7_rule 99 = .ok (.ishl, 1) := by decide +kernel
theorem dX7_rule_100 : decode cX7_rule 100 = .ok (.iconst (-1), 1) := by decide +kernel
theorem dX7_rule_101 : decode cX7_rule 101 = .ok (.ixor, 1) := by decide +kernel
theorem dX7_rule_102 : decode cX7_rule 102 = .ok (.iand, 1) := by decide +kernel
theorem dX7_rule_103 : decode cX7_rule 103 = .ok (.iastore, 1) := by decide +kernel
theorem dX7_rule_104 : decode cX7_rule 104 = .ok (.iload 4, 2) := by decide +kernel
theorem dX7_rule_106 : decode cX7_rule 106 = .ok (.ireturn, 1) := by decide +kernel
theorem dX7_undo_0 : decode cX7_undo 0 = .ok (.aload_n 0, 1) := by decide +kernel
theorem dX7_undo_1 : decode cX7_undo 1 = .ok (.getfield 52, 3) := by decide +kernel
theorem dX7_undo_4 : decode cX7_undo 4 = .ok (.ifCond .ne 6, 3) := by decide +kernel
theorem dX7_undo_7 : decode cX7_undo 7 = .ok (.bipush (-2), 2) := by decide +kernel
theorem dX7_undo_9 : decode cX7_undo 9 = .ok (.ireturn, 1) := by decide +kernel
theorem dX7_undo_10 : decode cX7_undo 10 = .ok (.aload_n 0, 1) := by decide +kernel
theorem dX7_undo_11 : decode cX7_undo 11 = .ok (.dup, 1) := by decide +kernel
theorem dX7_undo_12 : decode cX7_undo 12 = .ok (.getfield 52, 3) := by decide +kernel
theorem dX7_undo_15 : decode cX7_undo 15 = .ok (.iconst 1, 1) := by decide +kernel
theorem dX7_undo_16 : decode cX7_undo 16 = .ok (.isub, 1) := by decide +kernel
theorem dX7_undo_17 : decode cX7_undo 17 = .ok (.putfield 52, 3) := by decide +kernel
theorem dX7_undo_20 : decode cX7_undo 20 = .ok (.iconst 0, 1) := by decide +kernel
theorem dX7_undo_21 : decode cX7_undo 21 = .ok (.istore_n 1, 1) := by decide +kernel
theorem dX7_undo_22 : decode cX7_undo 22 = .ok (.iload_n 1, 1) := by decide +kernel
theorem dX7_undo_23 : decode cX7_undo 23 = .ok (.bipush 50, 2) := by decide +kernel
theorem dX7_undo_25 : decode cX7_undo 25 = .ok (.if_icmp .ge 29, 3) := by decide +kernel
theorem dX7_undo_28 : decode cX7_undo 28 = .ok (.aload_n 0, 1) := by decide +kernel
theorem dX7_undo_29 : decode cX7_undo 29 = .ok (.getfield 7, 3) := by decide +kernel
theorem dX7_undo_32 : decode cX7_undo 32 = .ok (.iload_n 1, 1) := by decide +kernel
theorem dX7_undo_33 : decode cX7_undo 33 = .ok (.aload_n 0, 1) := by decide +kernel
theorem dX7_undo_34 : decode cX7_undo 34 = .ok (.getfield 13, 3) := by decide +kernel
theorem dX7_undo_37 : decode cX7_undo 37 = .ok (.bipush 50, 2) := by decide +kernel
theorem dX7_undo_39 : decode cX7_undo 39 = .ok (.aload_n 0, 1) := by decide +kernel
theorem dX7_undo_40 : decode cX7_undo 40 = .ok (.getfield 52, 3) := by decide +kernel
theorem dX7_undo_43 : decode cX7_undo 43 = .ok (.imul, 1) := by decide +kernel
theorem dX7_undo_44 : decode cX7_undo 44 = .ok (.iload_n 1, 1) := by decide +kernel
theorem dX7_undo_45 : decode cX7_undo 45 = .ok (.iadd, 1) := by decide +kernel
theorem dX7_undo_46 : decode cX7_undo 46 = .ok (.iaload, 1) := by decide +kernel
theorem dX7_undo_47 : decode cX7_undo 47 = .ok (.iastore, 1) := by decide +kernel
theorem dX7_undo_48 : decode cX7_undo 48 = .ok (.iinc 1 1, 3) := by decide +kernel
theorem dX7_undo_51 : decode cX7_undo 51 = .ok (.goto (-29), 3) := by decide +kernel
theorem dX7_undo_54 : decode cX7_undo 54 = .ok (.aload_n 0, 1) := by decide +kernel
theorem dX7_undo_55 : decode cX7_undo 55 = .ok (.iconst 0, 1) := by decide +kernel
theorem dX7_undo_56 : decode cX7_undo 56 = .ok (.putfield 56, 3) := by decide +kernel
theorem dX7_undo_59 : decode cX7_undo 59 = .ok (.aload_n 0, 1) := by decide +kernel
theorem dX7_undo_60 : decode cX7_undo 60 = .ok (.getfield 52, 3) := by decide +kernel
theorem dX7_undo_63 : decode cX7_undo 63 = .ok (.ireturn, 1) := by decide +kernel
theorem dX7_begins_0 : decode cX7_begins 0 = .ok (.iload_n 1, 1) := by decide +kernel
theorem dX7_begins_1 : decode cX7_begins 1 = .ok (.iload_n 2, 1) := by decide +kernel
theorem dX7_begins_2 : decode cX7_begins 2 = .ok (.if_icmp .eq 20, 3) := by decide +kernel
theorem dX7_begins_5 : decode cX7_begins 5 = .ok (.aload_n 0, 1) := by decide +kernel
theorem dX7_begins_6 : decode cX7_begins 6 = .ok (.iload_n 1, 1) := by decide +kernel
theorem dX7_begins_7 : decode cX7_begins 7 = .ok (.invokevirtual 71, 3) := by decide +kernel
theorem dX7_begins_10 : decode cX7_begins 10 = .ok (.aload_n 0, 1) := by decide +kernel
theorem dX7_begins_11 : decode cX7_begins 11 = .ok (.iload_n 2, 1) := by decide +kernel
theorem dX7_begins_12 : decode cX7_begins 12 = .ok (.invokevirtual 71, 3) := by decide +kernel
theorem dX7_begins_15 : decode cX7_begins 15 = .ok (.if_icmp .gt 7, 3) := by decide +kernel
theorem dX7_begins_18 : decode cX7_begins 18 = .ok (.iconst 1, 1) := by decide +kernel
theorem dX7_begins_19 : decode cX7_begins 19 = .ok (.goto 4, 3) := by decide +kernel
theorem dX7_begins_22 : decode cX7_begins 22 = .ok (.iconst 0, 1) := by decide +kernel
theorem dX7_begins_23 : decode cX7_begins 23 = .ok (.istore_n 3, 1) := by decide +kernel
theorem dX7_begins_24 : decode cX7_begins 24 = .ok (.iconst 0, 1) := by decide +kernel
theorem dX7_begins_25 : decode cX7_begins 25 = .ok (.istore 4, 2) := by decide +kernel
theorem dX7_begins_27 : decode cX7_begins 27 = .ok (.iload 4, 2) := by decide +kernel
theorem dX7_begins_29 : decode cX7_begins 29 = .ok (.aload_n 0, 1) := by decide +kernel
theorem dX7_begins_30 : decode cX7_begins 30 = .ok (.iload_n 1, 1) := by decide +kernel
theorem dX7_begins_31 : decode cX7_begins 31 = .ok (.invokevirtual 71, 3) := by decide +kernel
theorem dX7_begins_34 : decode cX7_begins 34 = .ok (.if_icmp .ge 36, 3) := by decide +kernel
theorem dX7_begins_37 : decode cX7_begins 37 = .ok (.iload_n 3, 1) := by decide +kernel
theorem dX7_begins_38 : decode cX7_begins 38 = .ok (.ifCond .eq 32, 3) := by decide +kernel
theorem dX7_begins_41 : decode cX7_begins 41 = .ok (.aload_n 0, 1) := by decide +kernel
theorem dX7_begins_42 : decode cX7_begins 42 = .ok (.iload_n 1, 1) := by decide +kernel
theorem dX7_begins_43 : decode cX7_begins 43 = .ok (.iload 4, 2) := by decide +kernel
theorem dX7_begins_45 : decode cX7_begins 45 = .ok (.invokevirtual 67, 3) := by decide +kernel
theorem dX7_begins_48 : decode cX7_begins 48 = .ok (.aload_n 0, 1) := by decide +kernel
theorem dX7_begins_49 : decode cX7_begins 49 = .ok (.iload_n 2, 1) := by decide +kernel
theorem dX7_begins_50 : decode cX7_begins 50 = .ok (.iload 4, 2) := by decide +kernel
theorem dX7_begins_52 : decode cX7_begins 52 = .ok (.invokevirtual 67, 3) := by decide +kernel
theorem dX7_begins_55 : decode cX7_begins 55 = .ok (.if_icmp .ne 7, 3) := by decide +kernel
theorem dX7_begins_58 : decode cX7_begins 58 = .ok (.iconst 1, 1) := by decide +kernel
theorem dX7_begins_59 : decode cX7_begins 59 = .ok (.goto 4, 3) := by decide +kernel
theorem dX7_begins_62 : decode cX7_begins 62 = .ok (.iconst 0, 1) := by decide +kernel
theorem dX7_begins_63 : decode cX7_begins 63 = .ok (.istore_n 3, 1) := by decide +kernel
theorem dX7_begins_64 : decode cX7_begins 64 = .ok (.iinc 4 1, 3) := by decide +kernel
theorem dX7_begins_67 : decode cX7_begins 67 = .ok (.goto (-40), 3) := by decide +kernel
theorem dX7_begins_70 : decode cX7_begins 70 = .ok (.iload_n 3, 1) := by decide +kernel
theorem dX7_begins_71 : decode cX7_begins 71 = .ok (.ireturn, 1) := by decide +kernel
theorem dX7_clashing_0 : decode cX7_clashing 0 = .ok (.iconst 0, 1) := by decide +kernel
theorem dX7_clashing_1 : decode cX7_clashing 1 = .ok (.istore_n 2, 1) := by decide +kernel
theorem dX7_clashing_2 : decode cX7_clashing 2 = .ok (.iconst 0, 1) := by decide +kernel
theorem dX7_clashing_3 : decode cX7_clashing 3 = .ok (.istore_n 3, 1) := by decide +kernel
theorem dX7_clashing_4 : decode cX7_clashing 4 = .ok (.iload_n 3, 1) := by decide +kernel
theorem dX7_clashing_5 : decode cX7_clashing 5 = .ok (.aload_n 0, 1) := by decide +kernel
theorem dX7_clashing_6 : decode cX7_clashing 6 = .ok (.getfield 7, 3) := by decide +kernel
theorem dX7_clashing_9 : decode cX7_clashing 9 = .ok (.iconst 0, 1) := by decide +kernel
theorem dX7_clashing_10 : decode cX7_clashing 10 = .ok (.iaload, 1) := by decide +kernel
theorem dX7_clashing_11 : decode cX7_clashing 11 = .ok (.if_icmp .ge 37, 3) := by decide +kernel
theorem dX7_clashing_14 : decode cX7_clashing 14 = .ok (.iload_n 2, 1) := by decide +kernel
theorem dX7_clashing_15 : decode cX7_clashing 15 = .ok (.aload_n 0, 1) := by decide +kernel
theorem dX7_clashing_16 : decode cX7_clashing 16 = .ok (.iload_n 1, 1) := by decide +kernel
theorem dX7_clashing_17 : decode cX7_clashing 17 = .ok (.iload_n 3, 1) := by decide +kernel
theorem dX7_clashing_18 : decode cX7_clashing 18 = .ok (.invokevirtual 106, 3) := by decide +kernel
theorem dX7_clashing_21 : decode cX7_clashing 21 = .ok (.ifCond .ne 12, 3) := by decide +kernel
theorem dX7_clashing_24 : decode cX7_clashing 24 = .ok (.aload_n 0, 1) := by decide +kernel
theorem dX7_clashing_25 : decode cX7_clashing 25 = .ok (.iload_n 3, 1) := by decide +kernel
theorem dX7_clashing_26 : decode cX7_clashing 26 = .ok (.iload_n 1, 1) := by decide +kernel
theorem dX7_clashing_27 : decode cX7_clashing 27 = .ok (.invokevirtual 106, 3) := by decide +kernel
theorem dX7_clashing_30 : decode cX7_clashing 30 = .ok (.ifCond .eq 9, 3) := by decide +kernel
theorem dX7_clashing_33 : decode cX7_clashing 33 = .ok (.iconst 1, 1) := by decide +kernel
theorem dX7_clashing_34 : decode cX7_clashing 34 = .ok (.iload_n 3, 1) := by decide +kernel
theorem dX7_clashing_35 : decode cX7_clashing 35 = .ok (.ishl, 1) := by decide +kernel
theorem dX7_clashing_36 : decode cX7_clashing 36 = .ok (.goto 4, 3) := by decide +kernel
theorem dX7_clashing_39 : decode cX7_clashing 39 = .ok (.iconst 0, 1) := by decide +kernel
theorem dX7_clashing_40 : decode cX7_clashing 40 = .ok (.ior, 1) := by decide +kernel
theorem dX7_clashing_41 : decode cX7_clashing 41 = .ok (.istore_n 2, 1) := by decide +kernel
theorem dX7_clashing_42 : decode cX7_clashing 42 = .ok (.iinc 3 1, 3) := by decide +kernel
theorem dX7_clashing_45 : decode cX7_clashing 45 = .ok (.goto (-41), 3) := by decide +kernel
theorem dX7_clashing_48 : decode cX7_clashing 48 = .ok (.iload_n 2, 1) := by decide +kernel
theorem dX7_clashing_49 : decode cX7_clashing 49 = .ok (.ireturn, 1) := by decide +kernel
theorem dX7_size_0 : decode cX7_size 0 = .ok (.iconst 0, 1) := by decide +kernel
theorem dX7_size_1 : decode cX7_size 1 = .ok (.istore_n 1, 1) := by decide +kernel
theorem dX7_size_2 : decode cX7_size 2 = .ok (.iconst 0, 1) := by decide +kernel
theorem dX7_size_3 : decode cX7_size 3 = .ok (.istore_n 2, 1) := by decide +kernel
theorem dX7_size_4 : decode cX7_size 4 = .ok (.iload_n 2, 1) := by decide +kernel
theorem dX7_size_5 : decode cX7_size 5 = .ok (.bipush 6, 2) := by decide +kernel
theorem dX7_size_7 : decode cX7_size 7 = .ok (.if_icmp .ge 17, 3) := by decide +kernel
theorem dX7_size_10 : decode cX7_size 10 = .ok (.iload_n 1, 1) := by decide +kernel
theorem dX7_size_11 : decode cX7_size 11 = .ok (.iload_n 0, 1) := by decide +kernel
theorem dX7_size_12 : decode cX7_size 12 = .ok (.iload_n 2, 1) := by decide +kernel
theorem dX7_size_13 : decode cX7_size 13 = .ok (.ishr, 1) := by decide +kernel
theorem dX7_size_14 : decode cX7_size 14 = .ok (.iconst 1, 1) := by decide +kernel
theorem dX7_size_15 : decode cX7_size 15 = .ok (.iand, 1) := by decide +kernel
theorem dX7_size_16 : decode cX7_size 16 = .ok (.iadd, 1) := by decide +kernel
theorem dX7_size_17 : decode cX7_size 17 = .ok (.istore_n 1, 1) := by decide +kernel
theorem dX7_size_18 : decode cX7_size 18 = .ok (.iinc 2 1, 3) := by decide +kernel
theorem dX7_size_21 : decode cX7_size 21 = .ok (.goto (-17), 3) := by decide +kernel
theorem dX7_size_24 : decode cX7_size 24 = .ok (.iload_n 1, 1) := by decide +kernel
theorem dX7_size_25 : decode cX7_size 25 = .ok (.ireturn, 1) := by decide +kernel
theorem dX7_rules_0 : decode cX7_rules 0 = .ok (.iconst 0, 1) := by decide +kernel
theorem dX7_rules_1 : decode cX7_rules 1 = .ok (.istore_n 1, 1) := by decide +kernel
theorem dX7_rules_2 : decode cX7_rules 2 = .ok (.iconst 0, 1) := by decide +kernel
theorem dX7_rules_3 : decode cX7_rules 3 = .ok (.istore_n 2, 1) := by decide +kernel
theorem dX7_rules_4 : decode cX7_rules 4 = .ok (.iload_n 2, 1) := by decide +kernel
theorem dX7_rules_5 : decode cX7_rules 5 = .ok (.aload_n 0, 1) := by decide +kernel
theorem dX7_rules_6 : decode cX7_rules 6 = .ok (.getfield 7, 3) := by decide +kernel
theorem dX7_rules_9 : decode cX7_rules 9 = .ok (.iconst 0, 1) := by decide +kernel
theorem dX7_rules_10 : decode cX7_rules 10 = .ok (.iaload, 1) := by decide +kernel
theorem dX7_rules_11 : decode cX7_rules 11 = .ok (.if_icmp .ge 24, 3) := by decide +kernel
theorem dX7_rules_14 : decode cX7_rules 14 = .ok (.iload_n 1, 1) := by decide +kernel
theorem dX7_rules_15 : decode cX7_rules 15 = .ok (.aload_n 0, 1) := by decide +kernel
theorem dX7_rules_16 : decode cX7_rules 16 = .ok (.getfield 7, 3) := by decide +kernel
theorem dX7_rules_19 : decode cX7_rules 19 = .ok (.bipush 44, 2) := by decide +kernel
theorem dX7_rules_21 : decode cX7_rules 21 = .ok (.iload_n 2, 1) := by decide +kernel
theorem dX7_rules_22 : decode cX7_rules 22 = .ok (.iadd, 1) := by decide +kernel
theorem dX7_rules_23 : decode cX7_rules 23 = .ok (.iaload, 1) := by decide +kernel
theorem dX7_rules_24 : decode cX7_rules 24 = .ok (.invokestatic 109, 3) := by decide +kernel
theorem dX7_rules_27 : decode cX7_rules 27 = .ok (.iadd, 1) := by decide +kernel
theorem dX7_rules_28 : decode cX7_rules 28 = .ok (.istore_n 1, 1) := by decide +kernel
theorem dX7_rules_29 : decode cX7_rules 29 = .ok (.iinc 2 1, 3) := by decide +kernel
theorem dX7_rules_32 : decode cX7_rules 32 = .ok (.goto (-28), 3) := by decide +kernel
theorem dX7_rules_35 : decode cX7_rules 35 = .ok (.iload_n 1, 1) := by decide +kernel
theorem dX7_rules_36 : decode cX7_rules 36 = .ok (.ireturn, 1) := by decide +kernel
theorem dX7_clashes_0 : decode cX7_clashes 0 = .ok (.iconst 0, 1) := by decide +kernel
theorem dX7_clashes_1 : decode cX7_clashes 1 = .ok (.istore_n 1, 1) := by decide +kernel
theorem dX7_clashes_2 : decode cX7_clashes 2 = .ok (.iconst 0, 1) := by decide +kernel
theorem dX7_clashes_3 : decode cX7_clashes 3 = .ok (.istore_n 2, 1) := by decide +kernel
theorem dX7_clashes_4 : decode cX7_clashes 4 = .ok (.iload_n 2, 1) := by decide +kernel
theorem dX7_clashes_5 : decode cX7_clashes 5 = .ok (.aload_n 0, 1) := by decide +kernel
theorem dX7_clashes_6 : decode cX7_clashes 6 = .ok (.getfield 7, 3) := by decide +kernel
theorem dX7_clashes_9 : decode cX7_clashes 9 = .ok (.iconst 0, 1) := by decide +kernel
theorem dX7_clashes_10 : decode cX7_clashes 10 = .ok (.iaload, 1) := by decide +kernel
theorem dX7_clashes_11 : decode cX7_clashes 11 = .ok (.if_icmp .ge 20, 3) := by decide +kernel
theorem dX7_clashes_14 : decode cX7_clashes 14 = .ok (.iload_n 1, 1) := by decide +kernel
theorem dX7_clashes_15 : decode cX7_clashes 15 = .ok (.aload_n 0, 1) := by decide +kernel
theorem dX7_clashes_16 : decode cX7_clashes 16 = .ok (.iload_n 2, 1) := by decide +kernel
theorem dX7_clashes_17 : decode cX7_clashes 17 = .ok (.invokevirtual 112, 3) := by decide +kernel
theorem dX7_clashes_20 : decode cX7_clashes 20 = .ok (.invokestatic 109, 3) := by decide +kernel
theorem dX7_clashes_23 : decode cX7_clashes 23 = .ok (.iadd, 1) := by decide +kernel
theorem dX7_clashes_24 : decode cX7_clashes 24 = .ok (.istore_n 1, 1) := by decide +kernel
theorem dX7_clashes_25 : decode cX7_clashes 25 = .ok (.iinc 2 1, 3) := by decide +kernel
theorem dX7_clashes_28 : decode cX7_clashes 28 = .ok (.goto (-24), 3) := by decide +kernel
theorem dX7_clashes_31 : decode cX7_clashes 31 = .ok (.iload_n 1, 1) := by decide +kernel
theorem dX7_clashes_32 : decode cX7_clashes 32 = .ok (.iconst 2, 1) := by decide +kernel
theorem dX7_clashes_33 : decode cX7_clashes 33 = .ok (.idiv, 1) := by decide +kernel
theorem dX7_clashes_34 : decode cX7_clashes 34 = .ok (.ireturn, 1) := by decide +kernel
theorem dX7_sumOf_0 : decode cX7_sumOf 0 = .ok (.iconst 0, 1) := by decide +kernel
theorem dX7_sumOf_1 : decode cX7_sumOf 1 = .ok (.istore_n 2, 1) := by decide +kernel
theorem dX7_sumOf_2 : decode cX7_sumOf 2 = .ok (.iconst 0, 1) := by decide +kernel
theorem dX7_sumOf_3 : decode cX7_sumOf 3 = .ok (.istore_n 3, 1) := by decide +kernel
theorem dX7_sumOf_4 : decode cX7_sumOf 4 = .ok (.iload_n 3, 1) := by decide +kernel
theorem dX7_sumOf_5 : decode cX7_sumOf 5 = .ok (.aload_n 0, 1) := by decide +kernel
theorem dX7_sumOf_6 : decode cX7_sumOf 6 = .ok (.getfield 7, 3) := by decide +kernel
theorem dX7_sumOf_9 : decode cX7_sumOf 9 = .ok (.iconst 0, 1) := by decide +kernel
theorem dX7_sumOf_10 : decode cX7_sumOf 10 = .ok (.iaload, 1) := by decide +kernel
theorem dX7_sumOf_11 : decode cX7_sumOf 11 = .ok (.if_icmp .ge 20, 3) := by decide +kernel
theorem dX7_sumOf_14 : decode cX7_sumOf 14 = .ok (.iload_n 2, 1) := by decide +kernel
theorem dX7_sumOf_15 : decode cX7_sumOf 15 = .ok (.aload_n 0, 1) := by decide +kernel
theorem dX7_sumOf_16 : decode cX7_sumOf 16 = .ok (.getfield 7, 3) := by decide +kernel
theorem dX7_sumOf_19 : decode cX7_sumOf 19 = .ok (.iload_n 1, 1) := by decide +kernel
theorem dX7_sumOf_20 : decode cX7_sumOf 20 = .ok (.iload_n 3, 1) := by decide +kernel
theorem dX7_sumOf_21 : decode cX7_sumOf 21 = .ok (.iadd, 1) := by decide +kernel
theorem dX7_sumOf_22 : decode cX7_sumOf 22 = .ok (.iaload, 1) := by decide +kernel
theorem dX7_sumOf_23 : decode cX7_sumOf 23 = .ok (.iadd, 1) := by decide +kernel
theorem dX7_sumOf_24 : decode cX7_sumOf 24 = .ok (.istore_n 2, 1) := by decide +kernel
theorem dX7_sumOf_25 : decode cX7_sumOf 25 = .ok (.iinc 3 1, 3) := by decide +kernel
theorem dX7_sumOf_28 : decode cX7_sumOf 28 = .ok (.goto (-24), 3) := by decide +kernel
theorem dX7_sumOf_31 : decode cX7_sumOf 31 = .ok (.iload_n 2, 1) := by decide +kernel
theorem dX7_sumOf_32 : decode cX7_sumOf 32 = .ok (.ireturn, 1) := by decide +kernel
theorem dX7_told_0 : decode cX7_told 0 = .ok (.iload_n 1, 1) := by decide +kernel
theorem dX7_told_1 : decode cX7_told 1 = .ok (.tableswitch 95 0 7 #[47, 54, 61, 66, 71, 76, 81, 88], 47) := by decide +kernel
theorem dX7_told_48 : decode cX7_told 48 = .ok (.aload_n 0, 1) := by decide +kernel
theorem dX7_told_49 : decode cX7_told 49 = .ok (.getfield 7, 3) := by decide +kernel
theorem dX7_told_52 : decode cX7_told 52 = .ok (.iconst 0, 1) := by decide +kernel
theorem dX7_told_53 : decode cX7_told 53 = .ok (.iaload, 1) := by decide +kernel
theorem dX7_told_54 : decode cX7_told 54 = .ok (.ireturn, 1) := by decide +kernel
theorem dX7_told_55 : decode cX7_told 55 = .ok (.aload_n 0, 1) := by decide +kernel
theorem dX7_told_56 : decode cX7_told 56 = .ok (.getfield 7, 3) := by decide +kernel
theorem dX7_told_59 : decode cX7_told 59 = .ok (.iconst 1, 1) := by decide +kernel
theorem dX7_told_60 : decode cX7_told 60 = .ok (.iaload, 1) := by decide +kernel
theorem dX7_told_61 : decode cX7_told 61 = .ok (.ireturn, 1) := by decide +kernel
theorem dX7_told_62 : decode cX7_told 62 = .ok (.aload_n 0, 1) := by decide +kernel
theorem dX7_told_63 : decode cX7_told 63 = .ok (.invokevirtual 115, 3) := by decide +kernel
theorem dX7_told_66 : decode cX7_told 66 = .ok (.ireturn, 1) := by decide +kernel
theorem dX7_told_67 : decode cX7_told 67 = .ok (.aload_n 0, 1) := by decide +kernel
theorem dX7_told_68 : decode cX7_told 68 = .ok (.invokevirtual 119, 3) := by decide +kernel
theorem dX7_told_71 : decode cX7_told 71 = .ok (.ireturn, 1) := by decide +kernel
theorem dX7_told_72 : decode cX7_told 72 = .ok (.aload_n 0, 1) := by decide +kernel
theorem dX7_told_73 : decode cX7_told 73 = .ok (.getfield 64, 3) := by decide +kernel
theorem dX7_told_76 : decode cX7_told 76 = .ok (.ireturn, 1) := by decide +kernel
theorem dX7_told_77 : decode cX7_told 77 = .ok (.aload_n 0, 1) := by decide +kernel
theorem dX7_told_78 : decode cX7_told 78 = .ok (.getfield 52, 3) := by decide +kernel
theorem dX7_told_81 : decode cX7_told 81 = .ok (.ireturn, 1) := by decide +kernel
theorem dX7_told_82 : decode cX7_told 82 = .ok (.aload_n 0, 1) := by decide +kernel
theorem dX7_told_83 : decode cX7_told 83 = .ok (.bipush 26, 2) := by decide +kernel
theorem dX7_told_85 : decode cX7_told 85 = .ok (.invokevirtual 122, 3) := by decide +kernel
theorem dX7_told_88 : decode cX7_told 88 = .ok (.ireturn, 1) := by decide +kernel
theorem dX7_told_89 : decode cX7_told 89 = .ok (.aload_n 0, 1) := by decide +kernel
theorem dX7_told_90 : decode cX7_told 90 = .ok (.bipush 32, 2) := by decide +kernel
theorem dX7_told_92 : decode cX7_told 92 = .ok (.invokevirtual 122, 3) := by decide +kernel
theorem dX7_told_95 : decode cX7_told 95 = .ok (.ireturn, 1) := by decide +kernel
theorem dX7_told_96 : decode cX7_told 96 = .ok (.iconst (-1), 1) := by decide +kernel
theorem dX7_told_97 : decode cX7_told 97 = .ok (.ireturn, 1) := by decide +kernel
theorem dX7_member_0 : decode cX7_member 0 = .ok (.aload_n 0, 1) := by decide +kernel
theorem dX7_member_1 : decode cX7_member 1 = .ok (.iload_n 1, 1) := by decide +kernel
theorem dX7_member_2 : decode cX7_member 2 = .ok (.invokevirtual 99, 3) := by decide +kernel
theorem dX7_member_5 : decode cX7_member 5 = .ok (.ifCond .eq 13, 3) := by decide +kernel
theorem dX7_member_8 : decode cX7_member 8 = .ok (.iload_n 2, 1) := by decide +kernel
theorem dX7_member_9 : decode cX7_member 9 = .ok (.iconst 0, 1) := by decide +kernel
theorem dX7_member_10 : decode cX7_member 10 = .ok (.bipush 9, 2) := by decide +kernel
theorem dX7_member_12 : decode cX7_member 12 = .ok (.invokestatic 60, 3) := by decide +kernel
theorem dX7_member_15 : decode cX7_member 15 = .ok (.ifCond .ne 5, 3) := by decide +kernel
theorem dX7_member_18 : decode cX7_member 18 = .ok (.iconst (-1), 1) := by decide +kernel
theorem dX7_member_19 : decode cX7_member 19 = .ok (.ireturn, 1) := by decide +kernel
theorem dX7_member_20 : decode cX7_member 20 = .ok (.iload_n 2, 1) := by decide +kernel
theorem dX7_member_21 : decode cX7_member 21 = .ok (.iconst 4, 1) := by decide +kernel
theorem dX7_member_22 : decode cX7_member 22 = .ok (.if_icmp .ge 18, 3) := by decide +kernel
theorem dX7_member_25 : decode cX7_member 25 = .ok (.aload_n 0, 1) := by decide +kernel
theorem dX7_member_26 : decode cX7_member 26 = .ok (.getfield 7, 3) := by decide +kernel
theorem dX7_member_29 : decode cX7_member 29 = .ok (.bipush 20, 2) := by decide +kernel
theorem dX7_member_31 : decode cX7_member 31 = .ok (.bipush 6, 2) := by decide +kernel
theorem dX7_member_33 : decode cX7_member 33 = .ok (.iload_n 2, 1) := by decide +kernel
theorem dX7_member_34 : decode cX7_member 34 = .ok (.imul, 1) := by decide +kernel
theorem dX7_member_35 : decode cX7_member 35 = .ok (.iadd, 1) := by decide +kernel
theorem dX7_member_36 : decode cX7_member 36 = .ok (.iload_n 1, 1) := by decide +kernel
theorem dX7_member_37 : decode cX7_member 37 = .ok (.iadd, 1) := by decide +kernel
theorem dX7_member_38 : decode cX7_member 38 = .ok (.iaload, 1) := by decide +kernel
theorem dX7_member_39 : decode cX7_member 39 = .ok (.ireturn, 1) := by decide +kernel
theorem dX7_member_40 : decode cX7_member 40 = .ok (.iload_n 2, 1) := by decide +kernel
theorem dX7_member_41 : decode cX7_member 41 = .ok (.iconst 4, 1) := by decide +kernel
theorem dX7_member_42 : decode cX7_member 42 = .ok (.if_icmp .ne 9, 3) := by decide +kernel
theorem dX7_member_45 : decode cX7_member 45 = .ok (.aload_n 0, 1) := by decide +kernel
theorem dX7_member_46 : decode cX7_member 46 = .ok (.iload_n 1, 1) := by decide +kernel
theorem dX7_member_47 : decode cX7_member 47 = .ok (.invokevirtual 71, 3) := by decide +kernel
theorem dX7_member_50 : decode cX7_member 50 = .ok (.ireturn, 1) := by decide +kernel
theorem dX7_member_51 : decode cX7_member 51 = .ok (.iload_n 2, 1) := by decide +kernel
theorem dX7_member_52 : decode cX7_member 52 = .ok (.bipush 8, 2) := by decide +kernel
theorem dX7_member_54 : decode cX7_member 54 = .ok (.if_icmp .ge 28, 3) := by decide +kernel
theorem dX7_member_57 : decode cX7_member 57 = .ok (.aload_n 0, 1) := by decide +kernel
theorem dX7_member_58 : decode cX7_member 58 = .ok (.iload_n 1, 1) := by decide +kernel
theorem dX7_member_59 : decode cX7_member 59 = .ok (.iload_n 2, 1) := by decide +kernel
theorem dX7_member_60 : decode cX7_member 60 = .ok (.iconst 5, 1) := by decide +kernel
theorem dX7_member_61 : decode cX7_member 61 = .ok (.isub, 1) := by decide +kernel
theorem dX7_member_62 : decode cX7_member 62 = .ok (.invokevirtual 67, 3) := by decide +kernel
theorem dX7_member_65 : decode cX7_member 65 = .ok (.ifCond .ne 8, 3) := by decide +kernel
theorem dX7_member_68 : decode cX7_member 68 = .ok (.bipush (-9), 2) := by decide +kernel
theorem dX7_member_70 : decode cX7_member 70 = .ok (.goto 11, 3) := by decide +kernel
theorem dX7_member_73 : decode cX7_member 73 = .ok (.aload_n 0, 1) := by decide +kernel
theorem dX7_member_74 : decode cX7_member 74 = .ok (.iload_n 1, 1) := by decide +kernel
theorem dX7_member_75 : decode cX7_member 75 = .ok (.iload_n 2, 1) := by decide +kernel
theorem dX7_member_76 : decode cX7_member 76 = .ok (.iconst 5, 1) := by decide +kernel
theorem dX7_member_77 : decode cX7_member 77 = .ok (.isub, 1) := by decide +kernel
theorem dX7_member_78 : decode cX7_member 78 = .ok (.invokevirtual 67, 3) := by decide +kernel
theorem dX7_member_81 : decode cX7_member 81 = .ok (.ireturn, 1) := by decide +kernel
theorem dX7_member_82 : decode cX7_member 82 = .ok (.iload_n 2, 1) := by decide +kernel
theorem dX7_member_83 : decode cX7_member 83 = .ok (.bipush 8, 2) := by decide +kernel
theorem dX7_member_85 : decode cX7_member 85 = .ok (.if_icmp .ne 15, 3) := by decide +kernel
theorem dX7_member_88 : decode cX7_member 88 = .ok (.aload_n 0, 1) := by decide +kernel
theorem dX7_member_89 : decode cX7_member 89 = .ok (.getfield 7, 3) := by decide +kernel
theorem dX7_member_92 : decode cX7_member 92 = .ok (.bipush 44, 2) := by decide +kernel
theorem dX7_member_94 : decode cX7_member 94 = .ok (.iload_n 1, 1) := by decide +kernel
theorem dX7_member_95 : decode cX7_member 95 = .ok (.iadd, 1) := by decide +kernel
theorem dX7_member_96 : decode cX7_member 96 = .ok (.iaload, 1) := by decide +kernel
theorem dX7_member_97 : decode cX7_member 97 = .ok (.goto 8, 3) := by decide +kernel
theorem dX7_member_100 : decode cX7_member 100 = .ok (.aload_n 0, 1) := by decide +kernel
theorem dX7_member_101 : decode cX7_member 101 = .ok (.iload_n 1, 1) := by decide +kernel
theorem dX7_member_102 : decode cX7_member 102 = .ok (.invokevirtual 112, 3) := by decide +kernel
theorem dX7_member_105 : decode cX7_member 105 = .ok (.ireturn, 1) := by decide +kernel
theorem dX7_countIn_0 : decode cX7_countIn 0 = .ok (.iload_n 0, 1) := by decide +kernel
theorem dX7_countIn_1 : decode cX7_countIn 1 = .ok (.iconst 2, 1) := by decide +kernel
theorem dX7_countIn_2 : decode cX7_countIn 2 = .ok (.iload_n 1, 1) := by decide +kernel
theorem dX7_countIn_3 : decode cX7_countIn 3 = .ok (.imul, 1) := by decide +kernel
theorem dX7_countIn_4 : decode cX7_countIn 4 = .ok (.ishr, 1) := by decide +kernel
theorem dX7_countIn_5 : decode cX7_countIn 5 = .ok (.iconst 3, 1) := by decide +kernel
theorem dX7_countIn_6 : decode cX7_countIn 6 = .ok (.iand, 1) := by decide +kernel
theorem dX7_countIn_7 : decode cX7_countIn 7 = .ok (.ireturn, 1) := by decide +kernel
theorem dX7_with_0 : decode cX7_with 0 = .ok (.iload_n 0, 1) := by decide +kernel
theorem dX7_with_1 : decode cX7_with 1 = .ok (.iconst 1, 1) := by decide +kernel
theorem dX7_with_2 : decode cX7_with 2 = .ok (.iconst 2, 1) := by decide +kernel
theorem dX7_with_3 : decode cX7_with 3 = .ok (.iload_n 1, 1) := by decide +kernel
theorem dX7_with_4 : decode cX7_with 4 = .ok (.imul, 1) := by decide +kernel
theorem dX7_with_5 : decode cX7_with 5 = .ok (.ishl, 1) := by decide +kernel
theorem dX7_with_6 : decode cX7_with 6 = .ok (.iadd, 1) := by decide +kernel
theorem dX7_with_7 : decode cX7_with 7 = .ok (.ireturn, 1) := by decide +kernel
theorem dX7_may_0 : decode cX7_may 0 = .ok (.iload_n 1, 1) := by decide +kernel
theorem dX7_may_1 : decode cX7_may 1 = .ok (.iload_n 2, 1) := by decide +kernel
theorem dX7_may_2 : decode cX7_may 2 = .ok (.invokestatic 125, 3) := by decide +kernel
theorem dX7_may_5 : decode cX7_may 5 = .ok (.aload_n 0, 1) := by decide +kernel
theorem dX7_may_6 : decode cX7_may 6 = .ok (.getfield 7, 3) := by decide +kernel
theorem dX7_may_9 : decode cX7_may 9 = .ok (.bipush 32, 2) := by decide +kernel
theorem dX7_may_11 : decode cX7_may 11 = .ok (.iload_n 2, 1) := by decide +kernel
theorem dX7_may_12 : decode cX7_may 12 = .ok (.iadd, 1) := by decide +kernel
theorem dX7_may_13 : decode cX7_may 13 = .ok (.iaload, 1) := by decide +kernel
theorem dX7_may_14 : decode cX7_may 14 = .ok (.if_icmp .lt 5, 3) := by decide +kernel
theorem dX7_may_17 : decode cX7_may 17 = .ok (.iconst 0, 1) := by decide +kernel
theorem dX7_may_18 : decode cX7_may 18 = .ok (.ireturn, 1) := by decide +kernel
theorem dX7_may_19 : decode cX7_may 19 = .ok (.iconst 0, 1) := by decide +kernel
theorem dX7_may_20 : decode cX7_may 20 = .ok (.istore_n 3, 1) := by decide +kernel
theorem dX7_may_21 : decode cX7_may 21 = .ok (.iload_n 3, 1) := by decide +kernel
theorem dX7_may_22 : decode cX7_may 22 = .ok (.aload_n 0, 1) := by decide +kernel
theorem dX7_may_23 : decode cX7_may 23 = .ok (.getfield 7, 3) := by decide +kernel
theorem dX7_may_26 : decode cX7_may 26 = .ok (.iconst 0, 1) := by decide +kernel
theorem dX7_may_27 : decode cX7_may 27 = .ok (.iaload, 1) := by decide +kernel
theorem dX7_may_28 : decode cX7_may 28 = .ok (.if_icmp .ge 35, 3) := by decide +kernel
theorem dX7_may_31 : decode cX7_may 31 = .ok (.aload_n 0, 1) := by decide +kernel
theorem dX7_may_32 : decode cX7_may 32 = .ok (.getfield 7, 3) := by decide +kernel
theorem dX7_may_35 : decode cX7_may 35 = .ok (.bipush 44, 2) := by decide +kernel
theorem dX7_may_37 : decode cX7_may 37 = .ok (.iload_n 2, 1) := by decide +kernel
theorem dX7_may_38 : decode cX7_may 38 = .ok (.iadd, 1) := by decide +kernel
end
section
theorem dX7_may_39 : decode cX7_may 39 = .ok (.iaload, 1) := by decide +kernel
theorem dX7_may_40 : decode cX7_may 40 = .ok (.iload_n 3, 1) := by decide +kernel
theorem dX7_may_41 : decode cX7_may 41 = .ok (.invokestatic 89, 3) := by decide +kernel
theorem dX7_may_44 : decode cX7_may 44 = .ok (.ifCond .eq 13, 3) := by decide +kernel
theorem dX7_may_47 : decode cX7_may 47 = .ok (.iload_n 1, 1) := by decide +kernel
theorem dX7_may_48 : decode cX7_may 48 = .ok (.iload_n 3, 1) := by decide +kernel
theorem dX7_may_49 : decode cX7_may 49 = .ok (.invokestatic 125, 3) := by decide +kernel
theorem dX7_may_52 : decode cX7_may 52 = .ok (.ifCond .le 5, 3) := by decide +kernel
theorem dX7_may_55 : decode cX7_may 55 = .ok (.iconst 0, 1) := by decide +kernel
theorem dX7_may_56 : decode cX7_may 56 = .ok (.ireturn, 1) := by decide +kernel
theorem dX7_may_57 : decode cX7_may 57 = .ok (.iinc 3 1, 3) := by decide +kernel
theorem dX7_may_60 : decode cX7_may 60 = .ok (.goto (-39), 3) := by decide +kernel
theorem dX7_may_63 : decode cX7_may 63 = .ok (.iconst 1, 1) := by decide +kernel
theorem dX7_may_64 : decode cX7_may 64 = .ok (.ireturn, 1) := by decide +kernel
theorem dX7_isWhole_0 : decode cX7_isWhole 0 = .ok (.iconst 0, 1) := by decide +kernel
theorem dX7_isWhole_1 : decode cX7_isWhole 1 = .ok (.istore_n 2, 1) := by decide +kernel
theorem dX7_isWhole_2 : decode cX7_isWhole 2 = .ok (.iload_n 2, 1) := by decide +kernel
theorem dX7_isWhole_3 : decode cX7_isWhole 3 = .ok (.aload_n 0, 1) := by decide +kernel
theorem dX7_isWhole_4 : decode cX7_isWhole 4 = .ok (.getfield 7, 3) := by decide +kernel
theorem dX7_isWhole_7 : decode cX7_isWhole 7 = .ok (.iconst 0, 1) := by decide +kernel
theorem dX7_isWhole_8 : decode cX7_isWhole 8 = .ok (.iaload, 1) := by decide +kernel
theorem dX7_isWhole_9 : decode cX7_isWhole 9 = .ok (.if_icmp .ge 28, 3) := by decide +kernel
theorem dX7_isWhole_12 : decode cX7_isWhole 12 = .ok (.iload_n 1, 1) := by decide +kernel
theorem dX7_isWhole_13 : decode cX7_isWhole 13 = .ok (.iload_n 2, 1) := by decide +kernel
theorem dX7_isWhole_14 : decode cX7_isWhole 14 = .ok (.invokestatic 125, 3) := by decide +kernel
theorem dX7_isWhole_17 : decode cX7_isWhole 17 = .ok (.aload_n 0, 1) := by decide +kernel
theorem dX7_isWhole_18 : decode cX7_isWhole 18 = .ok (.getfield 7, 3) := by decide +kernel
theorem dX7_isWhole_21 : decode cX7_isWhole 21 = .ok (.bipush 26, 2) := by decide +kernel
theorem dX7_isWhole_23 : decode cX7_isWhole 23 = .ok (.iload_n 2, 1) := by decide +kernel
theorem dX7_isWhole_24 : decode cX7_isWhole 24 = .ok (.iadd, 1) := by decide +kernel
theorem dX7_isWhole_25 : decode cX7_isWhole 25 = .ok (.iaload, 1) := by decide +kernel
theorem dX7_isWhole_26 : decode cX7_isWhole 26 = .ok (.if_icmp .ge 5, 3) := by decide +kernel
theorem dX7_isWhole_29 : decode cX7_isWhole 29 = .ok (.iconst 0, 1) := by decide +kernel
theorem dX7_isWhole_30 : decode cX7_isWhole 30 = .ok (.ireturn, 1) := by decide +kernel
theorem dX7_isWhole_31 : decode cX7_isWhole 31 = .ok (.iinc 2 1, 3) := by decide +kernel
theorem dX7_isWhole_34 : decode cX7_isWhole 34 = .ok (.goto (-32), 3) := by decide +kernel
theorem dX7_isWhole_37 : decode cX7_isWhole 37 = .ok (.iconst 1, 1) := by decide +kernel
theorem dX7_isWhole_38 : decode cX7_isWhole 38 = .ok (.ireturn, 1) := by decide +kernel
theorem dX7_mayFollow_0 : decode cX7_mayFollow 0 = .ok (.iconst 0, 1) := by decide +kernel
theorem dX7_mayFollow_1 : decode cX7_mayFollow 1 = .ok (.istore_n 2, 1) := by decide +kernel
theorem dX7_mayFollow_2 : decode cX7_mayFollow 2 = .ok (.iconst 0, 1) := by decide +kernel
theorem dX7_mayFollow_3 : decode cX7_mayFollow 3 = .ok (.istore_n 3, 1) := by decide +kernel
theorem dX7_mayFollow_4 : decode cX7_mayFollow 4 = .ok (.iload_n 3, 1) := by decide +kernel
theorem dX7_mayFollow_5 : decode cX7_mayFollow 5 = .ok (.aload_n 0, 1) := by decide +kernel
theorem dX7_mayFollow_6 : decode cX7_mayFollow 6 = .ok (.getfield 7, 3) := by decide +kernel
theorem dX7_mayFollow_9 : decode cX7_mayFollow 9 = .ok (.iconst 0, 1) := by decide +kernel
theorem dX7_mayFollow_10 : decode cX7_mayFollow 10 = .ok (.iaload, 1) := by decide +kernel
theorem dX7_mayFollow_11 : decode cX7_mayFollow 11 = .ok (.if_icmp .ge 28, 3) := by decide +kernel
theorem dX7_mayFollow_14 : decode cX7_mayFollow 14 = .ok (.iload_n 2, 1) := by decide +kernel
theorem dX7_mayFollow_15 : decode cX7_mayFollow 15 = .ok (.aload_n 0, 1) := by decide +kernel
theorem dX7_mayFollow_16 : decode cX7_mayFollow 16 = .ok (.iload_n 1, 1) := by decide +kernel
theorem dX7_mayFollow_17 : decode cX7_mayFollow 17 = .ok (.iload_n 3, 1) := by decide +kernel
theorem dX7_mayFollow_18 : decode cX7_mayFollow 18 = .ok (.invokevirtual 128, 3) := by decide +kernel
theorem dX7_mayFollow_21 : decode cX7_mayFollow 21 = .ok (.ifCond .eq 9, 3) := by decide +kernel
theorem dX7_mayFollow_24 : decode cX7_mayFollow 24 = .ok (.iconst 1, 1) := by decide +kernel
theorem dX7_mayFollow_25 : decode cX7_mayFollow 25 = .ok (.iload_n 3, 1) := by decide +kernel
theorem dX7_mayFollow_26 : decode cX7_mayFollow 26 = .ok (.ishl, 1) := by decide +kernel
theorem dX7_mayFollow_27 : decode cX7_mayFollow 27 = .ok (.goto 4, 3) := by decide +kernel
theorem dX7_mayFollow_30 : decode cX7_mayFollow 30 = .ok (.iconst 0, 1) := by decide +kernel
theorem dX7_mayFollow_31 : decode cX7_mayFollow 31 = .ok (.ior, 1) := by decide +kernel
theorem dX7_mayFollow_32 : decode cX7_mayFollow 32 = .ok (.istore_n 2, 1) := by decide +kernel
theorem dX7_mayFollow_33 : decode cX7_mayFollow 33 = .ok (.iinc 3 1, 3) := by decide +kernel
theorem dX7_mayFollow_36 : decode cX7_mayFollow 36 = .ok (.goto (-32), 3) := by decide +kernel
theorem dX7_mayFollow_39 : decode cX7_mayFollow 39 = .ok (.iload_n 2, 1) := by decide +kernel
theorem dX7_mayFollow_40 : decode cX7_mayFollow 40 = .ok (.ireturn, 1) := by decide +kernel
theorem dX7_isDigitAt_0 : decode cX7_isDigitAt 0 = .ok (.iload_n 1, 1) := by decide +kernel
theorem dX7_isDigitAt_1 : decode cX7_isDigitAt 1 = .ok (.aload_n 0, 1) := by decide +kernel
theorem dX7_isDigitAt_2 : decode cX7_isDigitAt 2 = .ok (.getfield 64, 3) := by decide +kernel
theorem dX7_isDigitAt_5 : decode cX7_isDigitAt 5 = .ok (.if_icmp .ge 23, 3) := by decide +kernel
theorem dX7_isDigitAt_8 : decode cX7_isDigitAt 8 = .ok (.aload_n 0, 1) := by decide +kernel
theorem dX7_isDigitAt_9 : decode cX7_isDigitAt 9 = .ok (.getfield 19, 3) := by decide +kernel
theorem dX7_isDigitAt_12 : decode cX7_isDigitAt 12 = .ok (.iload_n 1, 1) := by decide +kernel
theorem dX7_isDigitAt_13 : decode cX7_isDigitAt 13 = .ok (.iaload, 1) := by decide +kernel
theorem dX7_isDigitAt_14 : decode cX7_isDigitAt 14 = .ok (.bipush 48, 2) := by decide +kernel
theorem dX7_isDigitAt_16 : decode cX7_isDigitAt 16 = .ok (.bipush 57, 2) := by decide +kernel
theorem dX7_isDigitAt_18 : decode cX7_isDigitAt 18 = .ok (.invokestatic 60, 3) := by decide +kernel
theorem dX7_isDigitAt_21 : decode cX7_isDigitAt 21 = .ok (.ifCond .eq 7, 3) := by decide +kernel
theorem dX7_isDigitAt_24 : decode cX7_isDigitAt 24 = .ok (.iconst 1, 1) := by decide +kernel
theorem dX7_isDigitAt_25 : decode cX7_isDigitAt 25 = .ok (.goto 4, 3) := by decide +kernel
theorem dX7_isDigitAt_28 : decode cX7_isDigitAt 28 = .ok (.iconst 0, 1) := by decide +kernel
theorem dX7_isDigitAt_29 : decode cX7_isDigitAt 29 = .ok (.ireturn, 1) := by decide +kernel
theorem dX7_matched_0 : decode cX7_matched 0 = .ok (.iconst 0, 1) := by decide +kernel
theorem dX7_matched_1 : decode cX7_matched 1 = .ok (.istore_n 3, 1) := by decide +kernel
theorem dX7_matched_2 : decode cX7_matched 2 = .ok (.iload_n 3, 1) := by decide +kernel
theorem dX7_matched_3 : decode cX7_matched 3 = .ok (.aload_n 0, 1) := by decide +kernel
theorem dX7_matched_4 : decode cX7_matched 4 = .ok (.iload_n 1, 1) := by decide +kernel
theorem dX7_matched_5 : decode cX7_matched 5 = .ok (.invokevirtual 71, 3) := by decide +kernel
theorem dX7_matched_8 : decode cX7_matched 8 = .ok (.if_icmp .ge 36, 3) := by decide +kernel
theorem dX7_matched_11 : decode cX7_matched 11 = .ok (.iload_n 2, 1) := by decide +kernel
theorem dX7_matched_12 : decode cX7_matched 12 = .ok (.iload_n 3, 1) := by decide +kernel
theorem dX7_matched_13 : decode cX7_matched 13 = .ok (.iadd, 1) := by decide +kernel
theorem dX7_matched_14 : decode cX7_matched 14 = .ok (.aload_n 0, 1) := by decide +kernel
theorem dX7_matched_15 : decode cX7_matched 15 = .ok (.getfield 64, 3) := by decide +kernel
theorem dX7_matched_18 : decode cX7_matched 18 = .ok (.if_icmp .ge 26, 3) := by decide +kernel
theorem dX7_matched_21 : decode cX7_matched 21 = .ok (.aload_n 0, 1) := by decide +kernel
theorem dX7_matched_22 : decode cX7_matched 22 = .ok (.getfield 19, 3) := by decide +kernel
theorem dX7_matched_25 : decode cX7_matched 25 = .ok (.iload_n 2, 1) := by decide +kernel
theorem dX7_matched_26 : decode cX7_matched 26 = .ok (.iload_n 3, 1) := by decide +kernel
theorem dX7_matched_27 : decode cX7_matched 27 = .ok (.iadd, 1) := by decide +kernel
theorem dX7_matched_28 : decode cX7_matched 28 = .ok (.iaload, 1) := by decide +kernel
theorem dX7_matched_29 : decode cX7_matched 29 = .ok (.aload_n 0, 1) := by decide +kernel
theorem dX7_matched_30 : decode cX7_matched 30 = .ok (.iload_n 1, 1) := by decide +kernel
theorem dX7_matched_31 : decode cX7_matched 31 = .ok (.iload_n 3, 1) := by decide +kernel
theorem dX7_matched_32 : decode cX7_matched 32 = .ok (.invokevirtual 67, 3) := by decide +kernel
theorem dX7_matched_35 : decode cX7_matched 35 = .ok (.if_icmp .ne 9, 3) := by decide +kernel
theorem dX7_matched_38 : decode cX7_matched 38 = .ok (.iinc 3 1, 3) := by decide +kernel
theorem dX7_matched_41 : decode cX7_matched 41 = .ok (.goto (-39), 3) := by decide +kernel
theorem dX7_matched_44 : decode cX7_matched 44 = .ok (.iload_n 3, 1) := by decide +kernel
theorem dX7_matched_45 : decode cX7_matched 45 = .ok (.ireturn, 1) := by decide +kernel
theorem dX7_endOf_0 : decode cX7_endOf 0 = .ok (.iload_n 2, 1) := by decide +kernel
theorem dX7_endOf_1 : decode cX7_endOf 1 = .ok (.aload_n 0, 1) := by decide +kernel
theorem dX7_endOf_2 : decode cX7_endOf 2 = .ok (.iload_n 1, 1) := by decide +kernel
theorem dX7_endOf_3 : decode cX7_endOf 3 = .ok (.invokevirtual 71, 3) := by decide +kernel
theorem dX7_endOf_6 : decode cX7_endOf 6 = .ok (.iadd, 1) := by decide +kernel
theorem dX7_endOf_7 : decode cX7_endOf 7 = .ok (.istore_n 3, 1) := by decide +kernel
theorem dX7_endOf_8 : decode cX7_endOf 8 = .ok (.aload_n 0, 1) := by decide +kernel
theorem dX7_endOf_9 : decode cX7_endOf 9 = .ok (.iload_n 1, 1) := by decide +kernel
theorem dX7_endOf_10 : decode cX7_endOf 10 = .ok (.iload_n 2, 1) := by decide +kernel
theorem dX7_endOf_11 : decode cX7_endOf 11 = .ok (.invokevirtual 131, 3) := by decide +kernel
theorem dX7_endOf_14 : decode cX7_endOf 14 = .ok (.aload_n 0, 1) := by decide +kernel
theorem dX7_endOf_15 : decode cX7_endOf 15 = .ok (.iload_n 1, 1) := by decide +kernel
theorem dX7_endOf_16 : decode cX7_endOf 16 = .ok (.invokevirtual 71, 3) := by decide +kernel
theorem dX7_endOf_19 : decode cX7_endOf 19 = .ok (.if_icmp .ge 6, 3) := by decide +kernel
theorem dX7_endOf_22 : decode cX7_endOf 22 = .ok (.bipush (-9), 2) := by decide +kernel
theorem dX7_endOf_24 : decode cX7_endOf 24 = .ok (.ireturn, 1) := by decide +kernel
theorem dX7_endOf_25 : decode cX7_endOf 25 = .ok (.aload_n 0, 1) := by decide +kernel
theorem dX7_endOf_26 : decode cX7_endOf 26 = .ok (.getfield 7, 3) := by decide +kernel
theorem dX7_endOf_29 : decode cX7_endOf 29 = .ok (.bipush 20, 2) := by decide +kernel
theorem dX7_endOf_31 : decode cX7_endOf 31 = .ok (.iload_n 1, 1) := by decide +kernel
theorem dX7_endOf_32 : decode cX7_endOf 32 = .ok (.iadd, 1) := by decide +kernel
theorem dX7_endOf_33 : decode cX7_endOf 33 = .ok (.iaload, 1) := by decide +kernel
theorem dX7_endOf_34 : decode cX7_endOf 34 = .ok (.lookupswitch 68 #[(0, 26), (1, 28)], 26) := by decide +kernel
theorem dX7_endOf_60 : decode cX7_endOf 60 = .ok (.iload_n 3, 1) := by decide +kernel
theorem dX7_endOf_61 : decode cX7_endOf 61 = .ok (.ireturn, 1) := by decide +kernel
theorem dX7_endOf_62 : decode cX7_endOf 62 = .ok (.iload_n 3, 1) := by decide +kernel
theorem dX7_endOf_63 : decode cX7_endOf 63 = .ok (.istore 4, 2) := by decide +kernel
theorem dX7_endOf_65 : decode cX7_endOf 65 = .ok (.iload 4, 2) := by decide +kernel
theorem dX7_endOf_67 : decode cX7_endOf 67 = .ok (.iload_n 3, 1) := by decide +kernel
theorem dX7_endOf_68 : decode cX7_endOf 68 = .ok (.iconst 3, 1) := by decide +kernel
theorem dX7_endOf_69 : decode cX7_endOf 69 = .ok (.iadd, 1) := by decide +kernel
theorem dX7_endOf_70 : decode cX7_endOf 70 = .ok (.if_icmp .ge 18, 3) := by decide +kernel
theorem dX7_endOf_73 : decode cX7_endOf 73 = .ok (.aload_n 0, 1) := by decide +kernel
theorem dX7_endOf_74 : decode cX7_endOf 74 = .ok (.iload 4, 2) := by decide +kernel
theorem dX7_endOf_76 : decode cX7_endOf 76 = .ok (.invokevirtual 134, 3) := by decide +kernel
theorem dX7_endOf_79 : decode cX7_endOf 79 = .ok (.ifCond .eq 9, 3) := by decide +kernel
theorem dX7_endOf_82 : decode cX7_endOf 82 = .ok (.iinc 4 1, 3) := by decide +kernel
theorem dX7_endOf_85 : decode cX7_endOf 85 = .ok (.goto (-20), 3) := by decide +kernel
theorem dX7_endOf_88 : decode cX7_endOf 88 = .ok (.iload 4, 2) := by decide +kernel
theorem dX7_endOf_90 : decode cX7_endOf 90 = .ok (.iload_n 3, 1) := by decide +kernel
theorem dX7_endOf_91 : decode cX7_endOf 91 = .ok (.if_icmp .ne 8, 3) := by decide +kernel
theorem dX7_endOf_94 : decode cX7_endOf 94 = .ok (.bipush (-9), 2) := by decide +kernel
theorem dX7_endOf_96 : decode cX7_endOf 96 = .ok (.goto 5, 3) := by decide +kernel
theorem dX7_endOf_99 : decode cX7_endOf 99 = .ok (.iload 4, 2) := by decide +kernel
theorem dX7_endOf_101 : decode cX7_endOf 101 = .ok (.ireturn, 1) := by decide +kernel
theorem dX7_endOf_102 : decode cX7_endOf 102 = .ok (.iload_n 3, 1) := by decide +kernel
theorem dX7_endOf_103 : decode cX7_endOf 103 = .ok (.aload_n 0, 1) := by decide +kernel
theorem dX7_endOf_104 : decode cX7_endOf 104 = .ok (.getfield 64, 3) := by decide +kernel
theorem dX7_endOf_107 : decode cX7_endOf 107 = .ok (.if_icmp .ge 25, 3) := by decide +kernel
theorem dX7_endOf_110 : decode cX7_endOf 110 = .ok (.aload_n 0, 1) := by decide +kernel
theorem dX7_endOf_111 : decode cX7_endOf 111 = .ok (.getfield 19, 3) := by decide +kernel
theorem dX7_endOf_114 : decode cX7_endOf 114 = .ok (.iload_n 3, 1) := by decide +kernel
theorem dX7_endOf_115 : decode cX7_endOf 115 = .ok (.iaload, 1) := by decide +kernel
theorem dX7_endOf_116 : decode cX7_endOf 116 = .ok (.bipush 65, 2) := by decide +kernel
theorem dX7_endOf_118 : decode cX7_endOf 118 = .ok (.bipush 90, 2) := by decide +kernel
theorem dX7_endOf_120 : decode cX7_endOf 120 = .ok (.invokestatic 60, 3) := by decide +kernel
theorem dX7_endOf_123 : decode cX7_endOf 123 = .ok (.ifCond .eq 9, 3) := by decide +kernel
theorem dX7_endOf_126 : decode cX7_endOf 126 = .ok (.iload_n 3, 1) := by decide +kernel
theorem dX7_endOf_127 : decode cX7_endOf 127 = .ok (.iconst 1, 1) := by decide +kernel
theorem dX7_endOf_128 : decode cX7_endOf 128 = .ok (.iadd, 1) := by decide +kernel
theorem dX7_endOf_129 : decode cX7_endOf 129 = .ok (.goto 5, 3) := by decide +kernel
theorem dX7_endOf_132 : decode cX7_endOf 132 = .ok (.bipush (-9), 2) := by decide +kernel
theorem dX7_endOf_134 : decode cX7_endOf 134 = .ok (.ireturn, 1) := by decide +kernel
theorem dX7_startOf_0 : decode cX7_startOf 0 = .ok (.iload_n 2, 1) := by decide +kernel
theorem dX7_startOf_1 : decode cX7_startOf 1 = .ok (.ifCond .eq 12, 3) := by decide +kernel
theorem dX7_startOf_4 : decode cX7_startOf 4 = .ok (.aload_n 0, 1) := by decide +kernel
theorem dX7_startOf_5 : decode cX7_startOf 5 = .ok (.getfield 7, 3) := by decide +kernel
theorem dX7_startOf_8 : decode cX7_startOf 8 = .ok (.iconst 1, 1) := by decide +kernel
theorem dX7_startOf_9 : decode cX7_startOf 9 = .ok (.iaload, 1) := by decide +kernel
theorem dX7_startOf_10 : decode cX7_startOf 10 = .ok (.ifCond .ne 5, 3) := by decide +kernel
theorem dX7_startOf_13 : decode cX7_startOf 13 = .ok (.iload_n 1, 1) := by decide +kernel
theorem dX7_startOf_14 : decode cX7_startOf 14 = .ok (.ireturn, 1) := by decide +kernel
theorem dX7_startOf_15 : decode cX7_startOf 15 = .ok (.iload_n 1, 1) := by decide +kernel
theorem dX7_startOf_16 : decode cX7_startOf 16 = .ok (.aload_n 0, 1) := by decide +kernel
theorem dX7_startOf_17 : decode cX7_startOf 17 = .ok (.getfield 64, 3) := by decide +kernel
theorem dX7_startOf_20 : decode cX7_startOf 20 = .ok (.if_icmp .ge 24, 3) := by decide +kernel
theorem dX7_startOf_23 : decode cX7_startOf 23 = .ok (.aload_n 0, 1) := by decide +kernel
theorem dX7_startOf_24 : decode cX7_startOf 24 = .ok (.getfield 19, 3) := by decide +kernel
theorem dX7_startOf_27 : decode cX7_startOf 27 = .ok (.iload_n 1, 1) := by decide +kernel
theorem dX7_startOf_28 : decode cX7_startOf 28 = .ok (.iaload, 1) := by decide +kernel
theorem dX7_startOf_29 : decode cX7_startOf 29 = .ok (.aload_n 0, 1) := by decide +kernel
theorem dX7_startOf_30 : decode cX7_startOf 30 = .ok (.getfield 7, 3) := by decide +kernel
theorem dX7_startOf_33 : decode cX7_startOf 33 = .ok (.iconst 1, 1) := by decide +kernel
theorem dX7_startOf_34 : decode cX7_startOf 34 = .ok (.iaload, 1) := by decide +kernel
theorem dX7_startOf_35 : decode cX7_startOf 35 = .ok (.if_icmp .ne 9, 3) := by decide +kernel
theorem dX7_startOf_38 : decode cX7_startOf 38 = .ok (.iload_n 1, 1) := by decide +kernel
theorem dX7_startOf_39 : decode cX7_startOf 39 = .ok (.iconst 1, 1) := by decide +kernel
theorem dX7_startOf_40 : decode cX7_startOf 40 = .ok (.iadd, 1) := by decide +kernel
theorem dX7_startOf_41 : decode cX7_startOf 41 = .ok (.goto 5, 3) := by decide +kernel
theorem dX7_startOf_44 : decode cX7_startOf 44 = .ok (.bipush (-9), 2) := by decide +kernel
theorem dX7_startOf_46 : decode cX7_startOf 46 = .ok (.ireturn, 1) := by decide +kernel
theorem dX7_layBeginnings_0 : decode cX7_layBeginnings 0 = .ok (.iconst 0, 1) := by decide +kernel
theorem dX7_layBeginnings_1 : decode cX7_layBeginnings 1 = .ok (.istore_n 1, 1) := by decide +kernel
theorem dX7_layBeginnings_2 : decode cX7_layBeginnings 2 = .ok (.iload_n 1, 1) := by decide +kernel
theorem dX7_layBeginnings_3 : decode cX7_layBeginnings 3 = .ok (.ldc 25, 2) := by decide +kernel
theorem dX7_layBeginnings_5 : decode cX7_layBeginnings 5 = .ok (.if_icmp .ge 31, 3) := by decide +kernel
theorem dX7_layBeginnings_8 : decode cX7_layBeginnings 8 = .ok (.aload_n 0, 1) := by decide +kernel
theorem dX7_layBeginnings_9 : decode cX7_layBeginnings 9 = .ok (.getfield 26, 3) := by decide +kernel
theorem dX7_layBeginnings_12 : decode cX7_layBeginnings 12 = .ok (.iload_n 1, 1) := by decide +kernel
theorem dX7_layBeginnings_13 : decode cX7_layBeginnings 13 = .ok (.iload_n 1, 1) := by decide +kernel
theorem dX7_layBeginnings_14 : decode cX7_layBeginnings 14 = .ok (.ifCond .ne 7, 3) := by decide +kernel
theorem dX7_layBeginnings_17 : decode cX7_layBeginnings 17 = .ok (.iconst 1, 1) := by decide +kernel
theorem dX7_layBeginnings_18 : decode cX7_layBeginnings 18 = .ok (.goto 4, 3) := by decide +kernel
theorem dX7_layBeginnings_21 : decode cX7_layBeginnings 21 = .ok (.iconst 0, 1) := by decide +kernel
theorem dX7_layBeginnings_22 : decode cX7_layBeginnings 22 = .ok (.bastore, 1) := by decide +kernel
theorem dX7_layBeginnings_23 : decode cX7_layBeginnings 23 = .ok (.aload_n 0, 1) := by decide +kernel
theorem dX7_layBeginnings_24 : decode cX7_layBeginnings 24 = .ok (.getfield 30, 3) := by decide +kernel
theorem dX7_layBeginnings_27 : decode cX7_layBeginnings 27 = .ok (.iload_n 1, 1) := by decide +kernel
theorem dX7_layBeginnings_28 : decode cX7_layBeginnings 28 = .ok (.iconst 0, 1) := by decide +kernel
theorem dX7_layBeginnings_29 : decode cX7_layBeginnings 29 = .ok (.iastore, 1) := by decide +kernel
theorem dX7_layBeginnings_30 : decode cX7_layBeginnings 30 = .ok (.iinc 1 1, 3) := by decide +kernel
theorem dX7_layBeginnings_33 : decode cX7_layBeginnings 33 = .ok (.goto (-31), 3) := by decide +kernel
theorem dX7_layBeginnings_36 : decode cX7_layBeginnings 36 = .ok (.iconst 0, 1) := by decide +kernel
theorem dX7_layBeginnings_37 : decode cX7_layBeginnings 37 = .ok (.istore_n 1, 1) := by decide +kernel
theorem dX7_layBeginnings_38 : decode cX7_layBeginnings 38 = .ok (.iload_n 1, 1) := by decide +kernel
theorem dX7_layBeginnings_39 : decode cX7_layBeginnings 39 = .ok (.aload_n 0, 1) := by decide +kernel
theorem dX7_layBeginnings_40 : decode cX7_layBeginnings 40 = .ok (.getfield 64, 3) := by decide +kernel
theorem dX7_layBeginnings_43 : decode cX7_layBeginnings 43 = .ok (.if_icmp .ge 122, 3) := by decide +kernel
theorem dX7_layBeginnings_46 : decode cX7_layBeginnings 46 = .ok (.iconst 0, 1) := by decide +kernel
theorem dX7_layBeginnings_47 : decode cX7_layBeginnings 47 = .ok (.istore_n 2, 1) := by decide +kernel
theorem dX7_layBeginnings_48 : decode cX7_layBeginnings 48 = .ok (.iload_n 2, 1) := by decide +kernel
theorem dX7_layBeginnings_49 : decode cX7_layBeginnings 49 = .ok (.sipush 4096, 3) := by decide +kernel
theorem dX7_layBeginnings_52 : decode cX7_layBeginnings 52 = .ok (.if_icmp .ge 107, 3) := by decide +kernel
theorem dX7_layBeginnings_55 : decode cX7_layBeginnings 55 = .ok (.aload_n 0, 1) := by decide +kernel
theorem dX7_layBeginnings_56 : decode cX7_layBeginnings 56 = .ok (.getfield 26, 3) := by decide +kernel
theorem dX7_layBeginnings_59 : decode cX7_layBeginnings 59 = .ok (.sipush 4096, 3) := by decide +kernel
theorem dX7_layBeginnings_62 : decode cX7_layBeginnings 62 = .ok (.iload_n 1, 1) := by decide +kernel
theorem dX7_layBeginnings_63 : decode cX7_layBeginnings 63 = .ok (.imul, 1) := by decide +kernel
theorem dX7_layBeginnings_64 : decode cX7_layBeginnings 64 = .ok (.iload_n 2, 1) := by decide +kernel
theorem dX7_layBeginnings_65 : decode cX7_layBeginnings 65 = .ok (.iadd, 1) := by decide +kernel
theorem dX7_layBeginnings_66 : decode cX7_layBeginnings 66 = .ok (.baload, 1) := by decide +kernel
theorem dX7_layBeginnings_67 : decode cX7_layBeginnings 67 = .ok (.ifCond .eq 86, 3) := by decide +kernel
theorem dX7_layBeginnings_70 : decode cX7_layBeginnings 70 = .ok (.aload_n 0, 1) := by decide +kernel
theorem dX7_layBeginnings_71 : decode cX7_layBeginnings 71 = .ok (.iload_n 1, 1) := by decide +kernel
theorem dX7_layBeginnings_72 : decode cX7_layBeginnings 72 = .ok (.iload_n 2, 1) := by decide +kernel
theorem dX7_layBeginnings_73 : decode cX7_layBeginnings 73 = .ok (.invokevirtual 137, 3) := by decide +kernel
theorem dX7_layBeginnings_76 : decode cX7_layBeginnings 76 = .ok (.istore_n 3, 1) := by decide +kernel
theorem dX7_layBeginnings_77 : decode cX7_layBeginnings 77 = .ok (.iconst 0, 1) := by decide +kernel
theorem dX7_layBeginnings_78 : decode cX7_layBeginnings 78 = .ok (.istore 4, 2) := by decide +kernel
theorem dX7_layBeginnings_80 : decode cX7_layBeginnings 80 = .ok (.iload 4, 2) := by decide +kernel
theorem dX7_layBeginnings_82 : decode cX7_layBeginnings 82 = .ok (.aload_n 0, 1) := by decide +kernel
theorem dX7_layBeginnings_83 : decode cX7_layBeginnings 83 = .ok (.getfield 7, 3) := by decide +kernel
theorem dX7_layBeginnings_86 : decode cX7_layBeginnings 86 = .ok (.iconst 0, 1) := by decide +kernel
theorem dX7_layBeginnings_87 : decode cX7_layBeginnings 87 = .ok (.iaload, 1) := by decide +kernel
theorem dX7_layBeginnings_88 : decode cX7_layBeginnings 88 = .ok (.if_icmp .ge 65, 3) := by decide +kernel
theorem dX7_layBeginnings_91 : decode cX7_layBeginnings 91 = .ok (.iload_n 3, 1) := by decide +kernel
theorem dX7_layBeginnings_92 : decode cX7_layBeginnings 92 = .ok (.bipush (-9), 2) := by decide +kernel
theorem dX7_layBeginnings_94 : decode cX7_layBeginnings 94 = .ok (.if_icmp .eq 59, 3) := by decide +kernel
theorem dX7_layBeginnings_97 : decode cX7_layBeginnings 97 = .ok (.aload_n 0, 1) := by decide +kernel
theorem dX7_layBeginnings_98 : decode cX7_layBeginnings 98 = .ok (.iload_n 2, 1) := by decide +kernel
theorem dX7_layBeginnings_99 : decode cX7_layBeginnings 99 = .ok (.iload 4, 2) := by decide +kernel
theorem dX7_layBeginnings_101 : decode cX7_layBeginnings 101 = .ok (.invokevirtual 128, 3) := by decide +kernel
theorem dX7_layBeginnings_104 : decode cX7_layBeginnings 104 = .ok (.ifCond .eq 13, 3) := by decide +kernel
theorem dX7_layBeginnings_107 : decode cX7_layBeginnings 107 = .ok (.aload_n 0, 1) := by decide +kernel
theorem dX7_layBeginnings_108 : decode cX7_layBeginnings 108 = .ok (.iload 4, 2) := by decide +kernel
theorem dX7_layBeginnings_110 : decode cX7_layBeginnings 110 = .ok (.iload_n 3, 1) := by decide +kernel
theorem dX7_layBeginnings_111 : decode cX7_layBeginnings 111 = .ok (.invokevirtual 140, 3) := by decide +kernel
theorem dX7_layBeginnings_114 : decode cX7_layBeginnings 114 = .ok (.goto 5, 3) := by decide +kernel
theorem dX7_layBeginnings_117 : decode cX7_layBeginnings 117 = .ok (.bipush (-9), 2) := by decide +kernel
theorem dX7_layBeginnings_119 : decode cX7_layBeginnings 119 = .ok (.istore 5, 2) := by decide +kernel
theorem dX7_layBeginnings_121 : decode cX7_layBeginnings 121 = .ok (.iload 5, 2) := by decide +kernel
theorem dX7_layBeginnings_123 : decode cX7_layBeginnings 123 = .ok (.bipush (-9), 2) := by decide +kernel
theorem dX7_layBeginnings_125 : decode cX7_layBeginnings 125 = .ok (.if_icmp .eq 22, 3) := by decide +kernel
theorem dX7_layBeginnings_128 : decode cX7_layBeginnings 128 = .ok (.aload_n 0, 1) := by decide +kernel
theorem dX7_layBeginnings_129 : decode cX7_layBeginnings 129 = .ok (.getfield 26, 3) := by decide +kernel
theorem dX7_layBeginnings_132 : decode cX7_layBeginnings 132 = .ok (.sipush 4096, 3) := by decide +kernel
theorem dX7_layBeginnings_135 : decode cX7_layBeginnings 135 = .ok (.iload 5, 2) := by decide +kernel
theorem dX7_layBeginnings_137 : decode cX7_layBeginnings 137 = .ok (.imul, 1) := by decide +kernel
theorem dX7_layBeginnings_138 : decode cX7_layBeginnings 138 = .ok (.iload_n 2, 1) := by decide +kernel
theorem dX7_layBeginnings_139 : decode cX7_layBeginnings 139 = .ok (.iload 4, 2) := by decide +kernel
theorem dX7_layBeginnings_141 : decode cX7_layBeginnings 141 = .ok (.invokestatic 143, 3) := by decide +kernel
theorem dX7_layBeginnings_144 : decode cX7_layBeginnings 144 = .ok (.iadd, 1) := by decide +kernel
theorem dX7_layBeginnings_145 : decode cX7_layBeginnings 145 = .ok (.iconst 1, 1) := by decide +kernel
theorem dX7_layBeginnings_146 : decode cX7_layBeginnings 146 = .ok (.bastore, 1) := by decide +kernel
theorem dX7_layBeginnings_147 : decode cX7_layBeginnings 147 = .ok (.iinc 4 1, 3) := by decide +kernel
theorem dX7_layBeginnings_150 : decode cX7_layBeginnings 150 = .ok (.goto (-70), 3) := by decide +kernel
theorem dX7_layBeginnings_153 : decode cX7_layBeginnings 153 = .ok (.iinc 2 1, 3) := by decide +kernel
theorem dX7_layBeginnings_156 : decode cX7_layBeginnings 156 = .ok (.goto (-108), 3) := by decide +kernel
theorem dX7_layBeginnings_159 : decode cX7_layBeginnings 159 = .ok (.iinc 1 1, 3) := by decide +kernel
theorem dX7_layBeginnings_162 : decode cX7_layBeginnings 162 = .ok (.goto (-124), 3) := by decide +kernel
theorem dX7_layBeginnings_165 : decode cX7_layBeginnings 165 = .ok (.return_, 1) := by decide +kernel
theorem dX7_waysFrom_0 : decode cX7_waysFrom 0 = .ok (.iload_n 1, 1) := by decide +kernel
theorem dX7_waysFrom_1 : decode cX7_waysFrom 1 = .ok (.aload_n 0, 1) := by decide +kernel
theorem dX7_waysFrom_2 : decode cX7_waysFrom 2 = .ok (.getfield 64, 3) := by decide +kernel
theorem dX7_waysFrom_5 : decode cX7_waysFrom 5 = .ok (.if_icmp .ne 17, 3) := by decide +kernel
theorem dX7_waysFrom_8 : decode cX7_waysFrom 8 = .ok (.aload_n 0, 1) := by decide +kernel
theorem dX7_waysFrom_9 : decode cX7_waysFrom 9 = .ok (.iload_n 2, 1) := by decide +kernel
theorem dX7_waysFrom_10 : decode cX7_waysFrom 10 = .ok (.invokevirtual 146, 3) := by decide +kernel
theorem dX7_waysFrom_13 : decode cX7_waysFrom 13 = .ok (.ifCond .eq 7, 3) := by decide +kernel
theorem dX7_waysFrom_16 : decode cX7_waysFrom 16 = .ok (.iconst 1, 1) := by decide +kernel
theorem dX7_waysFrom_17 : decode cX7_waysFrom 17 = .ok (.goto 4, 3) := by decide +kernel
theorem dX7_waysFrom_20 : decode cX7_waysFrom 20 = .ok (.iconst 0, 1) := by decide +kernel
theorem dX7_waysFrom_21 : decode cX7_waysFrom 21 = .ok (.ireturn, 1) := by decide +kernel
theorem dX7_waysFrom_22 : decode cX7_waysFrom 22 = .ok (.aload_n 0, 1) := by decide +kernel
theorem dX7_waysFrom_23 : decode cX7_waysFrom 23 = .ok (.iload_n 1, 1) := by decide +kernel
theorem dX7_waysFrom_24 : decode cX7_waysFrom 24 = .ok (.iload_n 2, 1) := by decide +kernel
theorem dX7_waysFrom_25 : decode cX7_waysFrom 25 = .ok (.invokevirtual 137, 3) := by decide +kernel
theorem dX7_waysFrom_28 : decode cX7_waysFrom 28 = .ok (.istore_n 3, 1) := by decide +kernel
theorem dX7_waysFrom_29 : decode cX7_waysFrom 29 = .ok (.iconst 0, 1) := by decide +kernel
theorem dX7_waysFrom_30 : decode cX7_waysFrom 30 = .ok (.istore 4, 2) := by decide +kernel
theorem dX7_waysFrom_32 : decode cX7_waysFrom 32 = .ok (.iconst 0, 1) := by decide +kernel
theorem dX7_waysFrom_33 : decode cX7_waysFrom 33 = .ok (.istore 5, 2) := by decide +kernel
theorem dX7_waysFrom_35 : decode cX7_waysFrom 35 = .ok (.iload 5, 2) := by decide +kernel
theorem dX7_waysFrom_37 : decode cX7_waysFrom 37 = .ok (.aload_n 0, 1) := by decide +kernel
theorem dX7_waysFrom_38 : decode cX7_waysFrom 38 = .ok (.getfield 7, 3) := by decide +kernel
theorem dX7_waysFrom_41 : decode cX7_waysFrom 41 = .ok (.iconst 0, 1) := by decide +kernel
theorem dX7_waysFrom_42 : decode cX7_waysFrom 42 = .ok (.iaload, 1) := by decide +kernel
theorem dX7_waysFrom_43 : decode cX7_waysFrom 43 = .ok (.if_icmp .ge 89, 3) := by decide +kernel
theorem dX7_waysFrom_46 : decode cX7_waysFrom 46 = .ok (.iload_n 3, 1) := by decide +kernel
theorem dX7_waysFrom_47 : decode cX7_waysFrom 47 = .ok (.bipush (-9), 2) := by decide +kernel
theorem dX7_waysFrom_49 : decode cX7_waysFrom 49 = .ok (.if_icmp .eq 83, 3) := by decide +kernel
theorem dX7_waysFrom_52 : decode cX7_waysFrom 52 = .ok (.aload_n 0, 1) := by decide +kernel
theorem dX7_waysFrom_53 : decode cX7_waysFrom 53 = .ok (.iload_n 2, 1) := by decide +kernel
theorem dX7_waysFrom_54 : decode cX7_waysFrom 54 = .ok (.iload 5, 2) := by decide +kernel
theorem dX7_waysFrom_56 : decode cX7_waysFrom 56 = .ok (.invokevirtual 128, 3) := by decide +kernel
theorem dX7_waysFrom_59 : decode cX7_waysFrom 59 = .ok (.ifCond .eq 13, 3) := by decide +kernel
theorem dX7_waysFrom_62 : decode cX7_waysFrom 62 = .ok (.aload_n 0, 1) := by decide +kernel
theorem dX7_waysFrom_63 : decode cX7_waysFrom 63 = .ok (.iload 5, 2) := by decide +kernel
theorem dX7_waysFrom_65 : decode cX7_waysFrom 65 = .ok (.iload_n 3, 1) := by decide +kernel
theorem dX7_waysFrom_66 : decode cX7_waysFrom 66 = .ok (.invokevirtual 140, 3) := by decide +kernel
theorem dX7_waysFrom_69 : decode cX7_waysFrom 69 = .ok (.goto 5, 3) := by decide +kernel
theorem dX7_waysFrom_72 : decode cX7_waysFrom 72 = .ok (.bipush (-9), 2) := by decide +kernel
theorem dX7_waysFrom_74 : decode cX7_waysFrom 74 = .ok (.istore 6, 2) := by decide +kernel
theorem dX7_waysFrom_76 : decode cX7_waysFrom 76 = .ok (.iload 4, 2) := by decide +kernel
theorem dX7_waysFrom_78 : decode cX7_waysFrom 78 = .ok (.iload 6, 2) := by decide +kernel
theorem dX7_waysFrom_80 : decode cX7_waysFrom 80 = .ok (.bipush (-9), 2) := by decide +kernel
theorem dX7_waysFrom_82 : decode cX7_waysFrom 82 = .ok (.if_icmp .ne 7, 3) := by decide +kernel
theorem dX7_waysFrom_85 : decode cX7_waysFrom 85 = .ok (.iconst 0, 1) := by decide +kernel
theorem dX7_waysFrom_86 : decode cX7_waysFrom 86 = .ok (.goto 21, 3) := by decide +kernel
theorem dX7_waysFrom_89 : decode cX7_waysFrom 89 = .ok (.aload_n 0, 1) := by decide +kernel
theorem dX7_waysFrom_90 : decode cX7_waysFrom 90 = .ok (.getfield 30, 3) := by decide +kernel
theorem dX7_waysFrom_93 : decode cX7_waysFrom 93 = .ok (.sipush 4096, 3) := by decide +kernel
theorem dX7_waysFrom_96 : decode cX7_waysFrom 96 = .ok (.iload 6, 2) := by decide +kernel
theorem dX7_waysFrom_98 : decode cX7_waysFrom 98 = .ok (.imul, 1) := by decide +kernel
theorem dX7_waysFrom_99 : decode cX7_waysFrom 99 = .ok (.iload_n 2, 1) := by decide +kernel
theorem dX7_waysFrom_100 : decode cX7_waysFrom 100 = .ok (.iload 5, 2) := by decide +kernel
theorem dX7_waysFrom_102 : decode cX7_waysFrom 102 = .ok (.invokestatic 143, 3) := by decide +kernel
theorem dX7_waysFrom_105 : decode cX7_waysFrom 105 = .ok (.iadd, 1) := by decide +kernel
theorem dX7_waysFrom_106 : decode cX7_waysFrom 106 = .ok (.iaload, 1) := by decide +kernel
theorem dX7_waysFrom_107 : decode cX7_waysFrom 107 = .ok (.iadd, 1) := by decide +kernel
theorem dX7_waysFrom_108 : decode cX7_waysFrom 108 = .ok (.istore 4, 2) := by decide +kernel
theorem dX7_waysFrom_110 : decode cX7_waysFrom 110 = .ok (.iload 4, 2) := by decide +kernel
theorem dX7_waysFrom_112 : decode cX7_waysFrom 112 = .ok (.ldc 149, 2) := by decide +kernel
theorem dX7_waysFrom_114 : decode cX7_waysFrom 114 = .ok (.if_icmp .le 8, 3) := by decide +kernel
theorem dX7_waysFrom_117 : decode cX7_waysFrom 117 = .ok (.ldc 149, 2) := by decide +kernel
theorem dX7_waysFrom_119 : decode cX7_waysFrom 119 = .ok (.goto 5, 3) := by decide +kernel
theorem dX7_waysFrom_122 : decode cX7_waysFrom 122 = .ok (.iload 4, 2) := by decide +kernel
theorem dX7_waysFrom_124 : decode cX7_waysFrom 124 = .ok (.istore 4, 2) := by decide +kernel
theorem dX7_waysFrom_126 : decode cX7_waysFrom 126 = .ok (.iinc 5 1, 3) := by decide +kernel
theorem dX7_waysFrom_129 : decode cX7_waysFrom 129 = .ok (.goto (-94), 3) := by decide +kernel
theorem dX7_waysFrom_132 : decode cX7_waysFrom 132 = .ok (.iload 4, 2) := by decide +kernel
theorem dX7_waysFrom_134 : decode cX7_waysFrom 134 = .ok (.ireturn, 1) := by decide +kernel
theorem dX7_layWays_0 : decode cX7_layWays 0 = .ok (.aload_n 0, 1) := by decide +kernel
theorem dX7_layWays_1 : decode cX7_layWays 1 = .ok (.getfield 56, 3) := by decide +kernel
theorem dX7_layWays_4 : decode cX7_layWays 4 = .ok (.ifCond .eq 4, 3) := by decide +kernel
theorem dX7_layWays_7 : decode cX7_layWays 7 = .ok (.return_, 1) := by decide +kernel
theorem dX7_layWays_8 : decode cX7_layWays 8 = .ok (.aload_n 0, 1) := by decide +kernel
theorem dX7_layWays_9 : decode cX7_layWays 9 = .ok (.iconst 1, 1) := by decide +kernel
theorem dX7_layWays_10 : decode cX7_layWays 10 = .ok (.putfield 56, 3) := by decide +kernel
theorem dX7_layWays_13 : decode cX7_layWays 13 = .ok (.aload_n 0, 1) := by decide +kernel
theorem dX7_layWays_14 : decode cX7_layWays 14 = .ok (.invokevirtual 150, 3) := by decide +kernel
theorem dX7_layWays_17 : decode cX7_layWays 17 = .ok (.aload_n 0, 1) := by decide +kernel
theorem dX7_layWays_18 : decode cX7_layWays 18 = .ok (.getfield 64, 3) := by decide +kernel
theorem dX7_layWays_21 : decode cX7_layWays 21 = .ok (.istore_n 1, 1) := by decide +kernel
theorem dX7_layWays_22 : decode cX7_layWays 22 = .ok (.iload_n 1, 1) := by decide +kernel
theorem dX7_layWays_23 : decode cX7_layWays 23 = .ok (.ifCond .lt 57, 3) := by decide +kernel
theorem dX7_layWays_26 : decode cX7_layWays 26 = .ok (.iconst 0, 1) := by decide +kernel
theorem dX7_layWays_27 : decode cX7_layWays 27 = .ok (.istore_n 2, 1) := by decide +kernel
theorem dX7_layWays_28 : decode cX7_layWays 28 = .ok (.iload_n 2, 1) := by decide +kernel
theorem dX7_layWays_29 : decode cX7_layWays 29 = .ok (.sipush 4096, 3) := by decide +kernel
theorem dX7_layWays_32 : decode cX7_layWays 32 = .ok (.if_icmp .ge 42, 3) := by decide +kernel
theorem dX7_layWays_35 : decode cX7_layWays 35 = .ok (.aload_n 0, 1) := by decide +kernel
theorem dX7_layWays_36 : decode cX7_layWays 36 = .ok (.getfield 26, 3) := by decide +kernel
theorem dX7_layWays_39 : decode cX7_layWays 39 = .ok (.sipush 4096, 3) := by decide +kernel
theorem dX7_layWays_42 : decode cX7_layWays 42 = .ok (.iload_n 1, 1) := by decide +kernel
theorem dX7_layWays_43 : decode cX7_layWays 43 = .ok (.imul, 1) := by decide +kernel
theorem dX7_layWays_44 : decode cX7_layWays 44 = .ok (.iload_n 2, 1) := by decide +kernel
theorem dX7_layWays_45 : decode cX7_layWays 45 = .ok (.iadd, 1) := by decide +kernel
theorem dX7_layWays_46 : decode cX7_layWays 46 = .ok (.baload, 1) := by decide +kernel
theorem dX7_layWays_47 : decode cX7_layWays 47 = .ok (.ifCond .eq 21, 3) := by decide +kernel
theorem dX7_layWays_50 : decode cX7_layWays 50 = .ok (.aload_n 0, 1) := by decide +kernel
theorem dX7_layWays_51 : decode cX7_layWays 51 = .ok (.getfield 30, 3) := by decide +kernel
theorem dX7_layWays_54 : decode cX7_layWays 54 = .ok (.sipush 4096, 3) := by decide +kernel
theorem dX7_layWays_57 : decode cX7_layWays 57 = .ok (.iload_n 1, 1) := by decide +kernel
theorem dX7_layWays_58 : decode cX7_layWays 58 = .ok (.imul, 1) := by decide +kernel
theorem dX7_layWays_59 : decode cX7_layWays 59 = .ok (.iload_n 2, 1) := by decide +kernel
theorem dX7_layWays_60 : decode cX7_layWays 60 = .ok (.iadd, 1) := by decide +kernel
theorem dX7_layWays_61 : decode cX7_layWays 61 = .ok (.aload_n 0, 1) := by decide +kernel
theorem dX7_layWays_62 : decode cX7_layWays 62 = .ok (.iload_n 1, 1) := by decide +kernel
theorem dX7_layWays_63 : decode cX7_layWays 63 = .ok (.iload_n 2, 1) := by decide +kernel
theorem dX7_layWays_64 : decode cX7_layWays 64 = .ok (.invokevirtual 153, 3) := by decide +kernel
theorem dX7_layWays_67 : decode cX7_layWays 67 = .ok (.iastore, 1) := by decide +kernel
theorem dX7_layWays_68 : decode cX7_layWays 68 = .ok (.iinc 2 1, 3) := by decide +kernel
theorem dX7_layWays_71 : decode cX7_layWays 71 = .ok (.goto (-43), 3) := by decide +kernel
theorem dX7_layWays_74 : decode cX7_layWays 74 = .ok (.iinc 1 (-1), 3) := by decide +kernel
theorem dX7_layWays_77 : decode cX7_layWays 77 = .ok (.goto (-55), 3) := by decide +kernel
theorem dX7_layWays_80 : decode cX7_layWays 80 = .ok (.return_, 1) := by decide +kernel
theorem dX7_furthest_0 : decode cX7_furthest 0 = .ok (.aload_n 0, 1) := by decide +kernel
theorem dX7_furthest_1 : decode cX7_furthest 1 = .ok (.iload_n 1, 1) := by decide +kernel
theorem dX7_furthest_2 : decode cX7_furthest 2 = .ok (.iload_n 2, 1) := by decide +kernel
theorem dX7_furthest_3 : decode cX7_furthest 3 = .ok (.invokevirtual 137, 3) := by decide +kernel
theorem dX7_furthest_6 : decode cX7_furthest 6 = .ok (.istore_n 3, 1) := by decide +kernel
theorem dX7_furthest_7 : decode cX7_furthest 7 = .ok (.iload_n 1, 1) := by decide +kernel
theorem dX7_furthest_8 : decode cX7_furthest 8 = .ok (.istore 4, 2) := by decide +kernel
theorem dX7_furthest_10 : decode cX7_furthest 10 = .ok (.iload_n 3, 1) := by decide +kernel
theorem dX7_furthest_11 : decode cX7_furthest 11 = .ok (.bipush (-9), 2) := by decide +kernel
theorem dX7_furthest_13 : decode cX7_furthest 13 = .ok (.if_icmp .ne 6, 3) := by decide +kernel
theorem dX7_furthest_16 : decode cX7_furthest 16 = .ok (.iload 4, 2) := by decide +kernel
theorem dX7_furthest_18 : decode cX7_furthest 18 = .ok (.ireturn, 1) := by decide +kernel
theorem dX7_furthest_19 : decode cX7_furthest 19 = .ok (.iconst 0, 1) := by decide +kernel
theorem dX7_furthest_20 : decode cX7_furthest 20 = .ok (.istore 5, 2) := by decide +kernel
theorem dX7_furthest_22 : decode cX7_furthest 22 = .ok (.iload 5, 2) := by decide +kernel
theorem dX7_furthest_24 : decode cX7_furthest 24 = .ok (.aload_n 0, 1) := by decide +kernel
theorem dX7_furthest_25 : decode cX7_furthest 25 = .ok (.getfield 7, 3) := by decide +kernel
theorem dX7_furthest_28 : decode cX7_furthest 28 = .ok (.iconst 0, 1) := by decide +kernel
theorem dX7_furthest_29 : decode cX7_furthest 29 = .ok (.iaload, 1) := by decide +kernel
theorem dX7_furthest_30 : decode cX7_furthest 30 = .ok (.if_icmp .ge 46, 3) := by decide +kernel
theorem dX7_furthest_33 : decode cX7_furthest 33 = .ok (.aload_n 0, 1) := by decide +kernel
theorem dX7_furthest_34 : decode cX7_furthest 34 = .ok (.iload_n 2, 1) := by decide +kernel
theorem dX7_furthest_35 : decode cX7_furthest 35 = .ok (.iload 5, 2) := by decide +kernel
theorem dX7_furthest_37 : decode cX7_furthest 37 = .ok (.invokevirtual 128, 3) := by decide +kernel
theorem dX7_furthest_40 : decode cX7_furthest 40 = .ok (.ifCond .eq 30, 3) := by decide +kernel
theorem dX7_furthest_43 : decode cX7_furthest 43 = .ok (.iload_n 3, 1) := by decide +kernel
theorem dX7_furthest_44 : decode cX7_furthest 44 = .ok (.aload_n 0, 1) := by decide +kernel
theorem dX7_furthest_45 : decode cX7_furthest 45 = .ok (.iload 5, 2) := by decide +kernel
theorem dX7_furthest_47 : decode cX7_furthest 47 = .ok (.iload_n 3, 1) := by decide +kernel
theorem dX7_furthest_48 : decode cX7_furthest 48 = .ok (.invokevirtual 131, 3) := by decide +kernel
theorem dX7_furthest_51 : decode cX7_furthest 51 = .ok (.iadd, 1) := by decide +kernel
theorem dX7_furthest_52 : decode cX7_furthest 52 = .ok (.istore 6, 2) := by decide +kernel
theorem dX7_furthest_54 : decode cX7_furthest 54 = .ok (.iload 6, 2) := by decide +kernel
theorem dX7_furthest_56 : decode cX7_furthest 56 = .ok (.iload 4, 2) := by decide +kernel
theorem dX7_furthest_58 : decode cX7_furthest 58 = .ok (.if_icmp .le 8, 3) := by decide +kernel
theorem dX7_furthest_61 : decode cX7_furthest 61 = .ok (.iload 6, 2) := by decide +kernel
theorem dX7_furthest_63 : decode cX7_furthest 63 = .ok (.goto 5, 3) := by decide +kernel
theorem dX7_furthest_66 : decode cX7_furthest 66 = .ok (.iload 4, 2) := by decide +kernel
theorem dX7_furthest_68 : decode cX7_furthest 68 = .ok (.istore 4, 2) := by decide +kernel
theorem dX7_furthest_70 : decode cX7_furthest 70 = .ok (.iinc 5 1, 3) := by decide +kernel
theorem dX7_furthest_73 : decode cX7_furthest 73 = .ok (.goto (-51), 3) := by decide +kernel
theorem dX7_furthest_76 : decode cX7_furthest 76 = .ok (.iload 4, 2) := by decide +kernel
theorem dX7_furthest_78 : decode cX7_furthest 78 = .ok (.ireturn, 1) := by decide +kernel
theorem dX7_fault_0 : decode cX7_fault 0 = .ok (.aload_n 0, 1) := by decide +kernel
theorem dX7_fault_1 : decode cX7_fault 1 = .ok (.invokevirtual 156, 3) := by decide +kernel
theorem dX7_fault_4 : decode cX7_fault 4 = .ok (.aload_n 0, 1) := by decide +kernel
theorem dX7_fault_5 : decode cX7_fault 5 = .ok (.getfield 30, 3) := by decide +kernel
theorem dX7_fault_8 : decode cX7_fault 8 = .ok (.iconst 0, 1) := by decide +kernel
theorem dX7_fault_9 : decode cX7_fault 9 = .ok (.iaload, 1) := by decide +kernel
theorem dX7_fault_10 : decode cX7_fault 10 = .ok (.ifCond .le 6, 3) := by decide +kernel
theorem dX7_fault_13 : decode cX7_fault 13 = .ok (.bipush (-9), 2) := by decide +kernel
theorem dX7_fault_15 : decode cX7_fault 15 = .ok (.ireturn, 1) := by decide +kernel
theorem dX7_fault_16 : decode cX7_fault 16 = .ok (.iconst 0, 1) := by decide +kernel
theorem dX7_fault_17 : decode cX7_fault 17 = .ok (.istore_n 1, 1) := by decide +kernel
theorem dX7_fault_18 : decode cX7_fault 18 = .ok (.iconst 0, 1) := by decide +kernel
theorem dX7_fault_19 : decode cX7_fault 19 = .ok (.istore_n 2, 1) := by decide +kernel
theorem dX7_fault_20 : decode cX7_fault 20 = .ok (.iload_n 2, 1) := by decide +kernel
theorem dX7_fault_21 : decode cX7_fault 21 = .ok (.aload_n 0, 1) := by decide +kernel
theorem dX7_fault_22 : decode cX7_fault 22 = .ok (.getfield 64, 3) := by decide +kernel
theorem dX7_fault_25 : decode cX7_fault 25 = .ok (.if_icmp .gt 60, 3) := by decide +kernel
theorem dX7_fault_28 : decode cX7_fault 28 = .ok (.iconst 0, 1) := by decide +kernel
theorem dX7_fault_29 : decode cX7_fault 29 = .ok (.istore_n 3, 1) := by decide +kernel
theorem dX7_fault_30 : decode cX7_fault 30 = .ok (.iload_n 3, 1) := by decide +kernel
theorem dX7_fault_31 : decode cX7_fault 31 = .ok (.sipush 4096, 3) := by decide +kernel
theorem dX7_fault_34 : decode cX7_fault 34 = .ok (.if_icmp .ge 45, 3) := by decide +kernel
theorem dX7_fault_37 : decode cX7_fault 37 = .ok (.aload_n 0, 1) := by decide +kernel
theorem dX7_fault_38 : decode cX7_fault 38 = .ok (.getfield 26, 3) := by decide +kernel
theorem dX7_fault_41 : decode cX7_fault 41 = .ok (.sipush 4096, 3) := by decide +kernel
theorem dX7_fault_44 : decode cX7_fault 44 = .ok (.iload_n 2, 1) := by decide +kernel
theorem dX7_fault_45 : decode cX7_fault 45 = .ok (.imul, 1) := by decide +kernel
theorem dX7_fault_46 : decode cX7_fault 46 = .ok (.iload_n 3, 1) := by decide +kernel
theorem dX7_fault_47 : decode cX7_fault 47 = .ok (.iadd, 1) := by decide +kernel
theorem dX7_fault_48 : decode cX7_fault 48 = .ok (.baload, 1) := by decide +kernel
theorem dX7_fault_49 : decode cX7_fault 49 = .ok (.ifCond .eq 24, 3) := by decide +kernel
theorem dX7_fault_52 : decode cX7_fault 52 = .ok (.aload_n 0, 1) := by decide +kernel
theorem dX7_fault_53 : decode cX7_fault 53 = .ok (.iload_n 2, 1) := by decide +kernel
theorem dX7_fault_54 : decode cX7_fault 54 = .ok (.iload_n 3, 1) := by decide +kernel
theorem dX7_fault_55 : decode cX7_fault 55 = .ok (.invokevirtual 159, 3) := by decide +kernel
theorem dX7_fault_58 : decode cX7_fault 58 = .ok (.istore 4, 2) := by decide +kernel
theorem dX7_fault_60 : decode cX7_fault 60 = .ok (.iload 4, 2) := by decide +kernel
theorem dX7_fault_62 : decode cX7_fault 62 = .ok (.iload_n 1, 1) := by decide +kernel
theorem dX7_fault_63 : decode cX7_fault 63 = .ok (.if_icmp .le 8, 3) := by decide +kernel
theorem dX7_fault_66 : decode cX7_fault 66 = .ok (.iload 4, 2) := by decide +kernel
theorem dX7_fault_68 : decode cX7_fault 68 = .ok (.goto 4, 3) := by decide +kernel
theorem dX7_fault_71 : decode cX7_fault 71 = .ok (.iload_n 1, 1) := by decide +kernel
theorem dX7_fault_72 : decode cX7_fault 72 = .ok (.istore_n 1, 1) := by decide +kernel
theorem dX7_fault_73 : decode cX7_fault 73 = .ok (.iinc 3 1, 3) := by decide +kernel
theorem dX7_fault_76 : decode cX7_fault 76 = .ok (.goto (-46), 3) := by decide +kernel
theorem dX7_fault_79 : decode cX7_fault 79 = .ok (.iinc 2 1, 3) := by decide +kernel
theorem dX7_fault_82 : decode cX7_fault 82 = .ok (.goto (-62), 3) := by decide +kernel
theorem dX7_fault_85 : decode cX7_fault 85 = .ok (.iload_n 1, 1) := by decide +kernel
theorem dX7_fault_86 : decode cX7_fault 86 = .ok (.ireturn, 1) := by decide +kernel
theorem dX7_readings_0 : decode cX7_readings 0 = .ok (.aload_n 0, 1) := by decide +kernel
theorem dX7_readings_1 : decode cX7_readings 1 = .ok (.invokevirtual 156, 3) := by decide +kernel
theorem dX7_readings_4 : decode cX7_readings 4 = .ok (.aload_n 0, 1) := by decide +kernel
theorem dX7_readings_5 : decode cX7_readings 5 = .ok (.getfield 30, 3) := by decide +kernel
theorem dX7_readings_8 : decode cX7_readings 8 = .ok (.iconst 0, 1) := by decide +kernel
theorem dX7_readings_9 : decode cX7_readings 9 = .ok (.iaload, 1) := by decide +kernel
theorem dX7_readings_10 : decode cX7_readings 10 = .ok (.ireturn, 1) := by decide +kernel
theorem dX7_valueAt_0 : decode cX7_valueAt 0 = .ok (.iload_n 2, 1) := by decide +kernel
theorem dX7_valueAt_1 : decode cX7_valueAt 1 = .ok (.aload_n 0, 1) := by decide +kernel
theorem dX7_valueAt_2 : decode cX7_valueAt 2 = .ok (.iload_n 1, 1) := by decide +kernel
theorem dX7_valueAt_3 : decode cX7_valueAt 3 = .ok (.invokevirtual 71, 3) := by decide +kernel
theorem dX7_valueAt_6 : decode cX7_valueAt 6 = .ok (.iadd, 1) := by decide +kernel
theorem dX7_valueAt_7 : decode cX7_valueAt 7 = .ok (.istore_n 3, 1) := by decide +kernel
theorem dX7_valueAt_8 : decode cX7_valueAt 8 = .ok (.aload_n 0, 1) := by decide +kernel
theorem dX7_valueAt_9 : decode cX7_valueAt 9 = .ok (.getfield 7, 3) := by decide +kernel
theorem dX7_valueAt_12 : decode cX7_valueAt 12 = .ok (.bipush 20, 2) := by decide +kernel
theorem dX7_valueAt_14 : decode cX7_valueAt 14 = .ok (.iload_n 1, 1) := by decide +kernel
theorem dX7_valueAt_15 : decode cX7_valueAt 15 = .ok (.iadd, 1) := by decide +kernel
theorem dX7_valueAt_16 : decode cX7_valueAt 16 = .ok (.iaload, 1) := by decide +kernel
theorem dX7_valueAt_17 : decode cX7_valueAt 17 = .ok (.ifCond .ne 5, 3) := by decide +kernel
theorem dX7_valueAt_20 : decode cX7_valueAt 20 = .ok (.iconst 1, 1) := by decide +kernel
theorem dX7_valueAt_21 : decode cX7_valueAt 21 = .ok (.ireturn, 1) := by decide +kernel
theorem dX7_valueAt_22 : decode cX7_valueAt 22 = .ok (.aload_n 0, 1) := by decide +kernel
theorem dX7_valueAt_23 : decode cX7_valueAt 23 = .ok (.getfield 7, 3) := by decide +kernel
theorem dX7_valueAt_26 : decode cX7_valueAt 26 = .ok (.bipush 20, 2) := by decide +kernel
theorem dX7_valueAt_28 : decode cX7_valueAt 28 = .ok (.iload_n 1, 1) := by decide +kernel
theorem dX7_valueAt_29 : decode cX7_valueAt 29 = .ok (.iadd, 1) := by decide +kernel
theorem dX7_valueAt_30 : decode cX7_valueAt 30 = .ok (.iaload, 1) := by decide +kernel
theorem dX7_valueAt_31 : decode cX7_valueAt 31 = .ok (.iconst 2, 1) := by decide +kernel
theorem dX7_valueAt_32 : decode cX7_valueAt 32 = .ok (.if_icmp .ne 13, 3) := by decide +kernel
theorem dX7_valueAt_35 : decode cX7_valueAt 35 = .ok (.aload_n 0, 1) := by decide +kernel
theorem dX7_valueAt_36 : decode cX7_valueAt 36 = .ok (.getfield 19, 3) := by decide +kernel
theorem dX7_valueAt_39 : decode cX7_valueAt 39 = .ok (.iload_n 3, 1) := by decide +kernel
theorem dX7_valueAt_40 : decode cX7_valueAt 40 = .ok (.iaload, 1) := by decide +kernel
theorem dX7_valueAt_41 : decode cX7_valueAt 41 = .ok (.bipush 65, 2) := by decide +kernel
theorem dX7_valueAt_43 : decode cX7_valueAt 43 = .ok (.isub, 1) := by decide +kernel
theorem dX7_valueAt_44 : decode cX7_valueAt 44 = .ok (.ireturn, 1) := by decide +kernel
theorem dX7_valueAt_45 : decode cX7_valueAt 45 = .ok (.iconst 0, 1) := by decide +kernel
theorem dX7_valueAt_46 : decode cX7_valueAt 46 = .ok (.istore 4, 2) := by decide +kernel
theorem dX7_valueAt_48 : decode cX7_valueAt 48 = .ok (.iload_n 3, 1) := by decide +kernel
theorem dX7_valueAt_49 : decode cX7_valueAt 49 = .ok (.istore 5, 2) := by decide +kernel
theorem dX7_valueAt_51 : decode cX7_valueAt 51 = .ok (.iload 5, 2) := by decide +kernel
theorem dX7_valueAt_53 : decode cX7_valueAt 53 = .ok (.iload_n 3, 1) := by decide +kernel
theorem dX7_valueAt_54 : decode cX7_valueAt 54 = .ok (.iconst 3, 1) := by decide +kernel
theorem dX7_valueAt_55 : decode cX7_valueAt 55 = .ok (.iadd, 1) := by decide +kernel
theorem dX7_valueAt_56 : decode cX7_valueAt 56 = .ok (.if_icmp .ge 36, 3) := by decide +kernel
theorem dX7_valueAt_59 : decode cX7_valueAt 59 = .ok (.aload_n 0, 1) := by decide +kernel
theorem dX7_valueAt_60 : decode cX7_valueAt 60 = .ok (.iload 5, 2) := by decide +kernel
theorem dX7_valueAt_62 : decode cX7_valueAt 62 = .ok (.invokevirtual 134, 3) := by decide +kernel
theorem dX7_valueAt_65 : decode cX7_valueAt 65 = .ok (.ifCond .eq 27, 3) := by decide +kernel
theorem dX7_valueAt_68 : decode cX7_valueAt 68 = .ok (.bipush 10, 2) := by decide +kernel
theorem dX7_valueAt_70 : decode cX7_valueAt 70 = .ok (.iload 4, 2) := by decide +kernel
theorem dX7_valueAt_72 : decode cX7_valueAt 72 = .ok (.imul, 1) := by decide +kernel
theorem dX7_valueAt_73 : decode cX7_valueAt 73 = .ok (.aload_n 0, 1) := by decide +kernel
theorem dX7_valueAt_74 : decode cX7_valueAt 74 = .ok (.getfield 19, 3) := by decide +kernel
theorem dX7_valueAt_77 : decode cX7_valueAt 77 = .ok (.iload 5, 2) := by decide +kernel
theorem dX7_valueAt_79 : decode cX7_valueAt 79 = .ok (.iaload, 1) := by decide +kernel
theorem dX7_valueAt_80 : decode cX7_valueAt 80 = .ok (.iadd, 1) := by decide +kernel
theorem dX7_valueAt_81 : decode cX7_valueAt 81 = .ok (.bipush 48, 2) := by decide +kernel
theorem dX7_valueAt_83 : decode cX7_valueAt 83 = .ok (.isub, 1) := by decide +kernel
theorem dX7_valueAt_84 : decode cX7_valueAt 84 = .ok (.istore 4, 2) := by decide +kernel
theorem dX7_valueAt_86 : decode cX7_valueAt 86 = .ok (.iinc 5 1, 3) := by decide +kernel
theorem dX7_valueAt_89 : decode cX7_valueAt 89 = .ok (.goto (-38), 3) := by decide +kernel
theorem dX7_valueAt_92 : decode cX7_valueAt 92 = .ok (.iload 4, 2) := by decide +kernel
theorem dX7_valueAt_94 : decode cX7_valueAt 94 = .ok (.ireturn, 1) := by decide +kernel
theorem dX7_layReading_0 : decode cX7_layReading 0 = .ok (.aload_n 0, 1) := by decide +kernel
theorem dX7_layReading_1 : decode cX7_layReading 1 = .ok (.invokevirtual 156, 3) := by decide +kernel
theorem dX7_layReading_4 : decode cX7_layReading 4 = .ok (.aload_n 0, 1) := by decide +kernel
theorem dX7_layReading_5 : decode cX7_layReading 5 = .ok (.getfield 30, 3) := by decide +kernel
theorem dX7_layReading_8 : decode cX7_layReading 8 = .ok (.iconst 0, 1) := by decide +kernel
theorem dX7_layReading_9 : decode cX7_layReading 9 = .ok (.iaload, 1) := by decide +kernel
theorem dX7_layReading_10 : decode cX7_layReading 10 = .ok (.ifCond .ne 6, 3) := by decide +kernel
theorem dX7_layReading_13 : decode cX7_layReading 13 = .ok (.bipush (-9), 2) := by decide +kernel
theorem dX7_layReading_15 : decode cX7_layReading 15 = .ok (.ireturn, 1) := by decide +kernel
theorem dX7_layReading_16 : decode cX7_layReading 16 = .ok (.iconst 0, 1) := by decide +kernel
theorem dX7_layReading_17 : decode cX7_layReading 17 = .ok (.istore_n 1, 1) := by decide +kernel
theorem dX7_layReading_18 : decode cX7_layReading 18 = .ok (.iconst 0, 1) := by decide +kernel
theorem dX7_layReading_19 : decode cX7_layReading 19 = .ok (.istore_n 2, 1) := by decide +kernel
theorem dX7_layReading_20 : decode cX7_layReading 20 = .ok (.iconst 0, 1) := by decide +kernel
theorem dX7_layReading_21 : decode cX7_layReading 21 = .ok (.istore_n 3, 1) := by decide +kernel
theorem dX7_layReading_22 : decode cX7_layReading 22 = .ok (.iload_n 1, 1) := by decide +kernel
theorem dX7_layReading_23 : decode cX7_layReading 23 = .ok (.aload_n 0, 1) := by decide +kernel
theorem dX7_layReading_24 : decode cX7_layReading 24 = .ok (.getfield 64, 3) := by decide +kernel
theorem dX7_layReading_27 : decode cX7_layReading 27 = .ok (.if_icmp .ge 122, 3) := by decide +kernel
theorem dX7_layReading_30 : decode cX7_layReading 30 = .ok (.aload_n 0, 1) := by decide +kernel
theorem dX7_layReading_31 : decode cX7_layReading 31 = .ok (.iload_n 1, 1) := by decide +kernel
theorem dX7_layReading_32 : decode cX7_layReading 32 = .ok (.iload_n 2, 1) := by decide +kernel
theorem dX7_layReading_33 : decode cX7_layReading 33 = .ok (.invokevirtual 137, 3) := by decide +kernel
theorem dX7_layReading_36 : decode cX7_layReading 36 = .ok (.istore 4, 2) := by decide +kernel
theorem dX7_layReading_38 : decode cX7_layReading 38 = .ok (.iconst 0, 1) := by decide +kernel
theorem dX7_layReading_39 : decode cX7_layReading 39 = .ok (.istore 5, 2) := by decide +kernel
theorem dX7_layReading_41 : decode cX7_layReading 41 = .ok (.aload_n 0, 1) := by decide +kernel
theorem dX7_layReading_42 : decode cX7_layReading 42 = .ok (.iload_n 2, 1) := by decide +kernel
theorem dX7_layReading_43 : decode cX7_layReading 43 = .ok (.iload 5, 2) := by decide +kernel
theorem dX7_layReading_45 : decode cX7_layReading 45 = .ok (.invokevirtual 128, 3) := by decide +kernel
theorem dX7_layReading_48 : decode cX7_layReading 48 = .ok (.ifCond .eq 43, 3) := by decide +kernel
theorem dX7_layReading_51 : decode cX7_layReading 51 = .ok (.aload_n 0, 1) := by decide +kernel
theorem dX7_layReading_52 : decode cX7_layReading 52 = .ok (.iload 5, 2) := by decide +kernel
theorem dX7_layReading_54 : decode cX7_layReading 54 = .ok (.iload 4, 2) := by decide +kernel
theorem dX7_layReading_56 : decode cX7_layReading 56 = .ok (.invokevirtual 140, 3) := by decide +kernel
theorem dX7_layReading_59 : decode cX7_layReading 59 = .ok (.bipush (-9), 2) := by decide +kernel
theorem dX7_layReading_61 : decode cX7_layReading 61 = .ok (.if_icmp .eq 30, 3) := by decide +kernel
theorem dX7_layReading_64 : decode cX7_layReading 64 = .ok (.aload_n 0, 1) := by decide +kernel
theorem dX7_layReading_65 : decode cX7_layReading 65 = .ok (.getfield 30, 3) := by decide +kernel
theorem dX7_layReading_68 : decode cX7_layReading 68 = .ok (.sipush 4096, 3) := by decide +kernel
theorem dX7_layReading_71 : decode cX7_layReading 71 = .ok (.aload_n 0, 1) := by decide +kernel
theorem dX7_layReading_72 : decode cX7_layReading 72 = .ok (.iload 5, 2) := by decide +kernel
theorem dX7_layReading_74 : decode cX7_layReading 74 = .ok (.iload 4, 2) := by decide +kernel
theorem dX7_layReading_76 : decode cX7_layReading 76 = .ok (.invokevirtual 140, 3) := by decide +kernel
theorem dX7_layReading_79 : decode cX7_layReading 79 = .ok (.imul, 1) := by decide +kernel
theorem dX7_layReading_80 : decode cX7_layReading 80 = .ok (.iload_n 2, 1) := by decide +kernel
theorem dX7_layReading_81 : decode cX7_layReading 81 = .ok (.iload 5, 2) := by decide +kernel
theorem dX7_layReading_83 : decode cX7_layReading 83 = .ok (.invokestatic 143, 3) := by decide +kernel
theorem dX7_layReading_86 : decode cX7_layReading 86 = .ok (.iadd, 1) := by decide +kernel
theorem dX7_layReading_87 : decode cX7_layReading 87 = .ok (.iaload, 1) := by decide +kernel
theorem dX7_layReading_88 : decode cX7_layReading 88 = .ok (.ifCond .ne 9, 3) := by decide +kernel
theorem dX7_layReading_91 : decode cX7_layReading 91 = .ok (.iinc 5 1, 3) := by decide +kernel
theorem dX7_layReading_94 : decode cX7_layReading 94 = .ok (.goto (-53), 3) := by decide +kernel
theorem dX7_layReading_97 : decode cX7_layReading 97 = .ok (.aload_n 0, 1) := by decide +kernel
theorem dX7_layReading_98 : decode cX7_layReading 98 = .ok (.getfield 33, 3) := by decide +kernel
theorem dX7_layReading_101 : decode cX7_layReading 101 = .ok (.iload_n 3, 1) := by decide +kernel
theorem dX7_layReading_102 : decode cX7_layReading 102 = .ok (.iload 5, 2) := by decide +kernel
theorem dX7_layReading_104 : decode cX7_layReading 104 = .ok (.iastore, 1) := by decide +kernel
theorem dX7_layReading_105 : decode cX7_layReading 105 = .ok (.aload_n 0, 1) := by decide +kernel
theorem dX7_layReading_106 : decode cX7_layReading 106 = .ok (.getfield 36, 3) := by decide +kernel
theorem dX7_layReading_109 : decode cX7_layReading 109 = .ok (.iload_n 3, 1) := by decide +kernel
theorem dX7_layReading_110 : decode cX7_layReading 110 = .ok (.iload 4, 2) := by decide +kernel
theorem dX7_layReading_112 : decode cX7_layReading 112 = .ok (.iastore, 1) := by decide +kernel
theorem dX7_layReading_113 : decode cX7_layReading 113 = .ok (.aload_n 0, 1) := by decide +kernel
theorem dX7_layReading_114 : decode cX7_layReading 114 = .ok (.getfield 39, 3) := by decide +kernel
theorem dX7_layReading_117 : decode cX7_layReading 117 = .ok (.iload_n 3, 1) := by decide +kernel
theorem dX7_layReading_118 : decode cX7_layReading 118 = .ok (.aload_n 0, 1) := by decide +kernel
theorem dX7_layReading_119 : decode cX7_layReading 119 = .ok (.iload 5, 2) := by decide +kernel
theorem dX7_layReading_121 : decode cX7_layReading 121 = .ok (.iload 4, 2) := by decide +kernel
theorem dX7_layReading_123 : decode cX7_layReading 123 = .ok (.invokevirtual 162, 3) := by decide +kernel
theorem dX7_layReading_126 : decode cX7_layReading 126 = .ok (.iastore, 1) := by decide +kernel
theorem dX7_layReading_127 : decode cX7_layReading 127 = .ok (.iinc 3 1, 3) := by decide +kernel
theorem dX7_layReading_130 : decode cX7_layReading 130 = .ok (.aload_n 0, 1) := by decide +kernel
theorem dX7_layReading_131 : decode cX7_layReading 131 = .ok (.iload 5, 2) := by decide +kernel
theorem dX7_layReading_133 : decode cX7_layReading 133 = .ok (.iload 4, 2) := by decide +kernel
theorem dX7_layReading_135 : decode cX7_layReading 135 = .ok (.invokevirtual 140, 3) := by decide +kernel
theorem dX7_layReading_138 : decode cX7_layReading 138 = .ok (.istore_n 1, 1) := by decide +kernel
theorem dX7_layReading_139 : decode cX7_layReading 139 = .ok (.iload_n 2, 1) := by decide +kernel
theorem dX7_layReading_140 : decode cX7_layReading 140 = .ok (.iload 5, 2) := by decide +kernel
theorem dX7_layReading_142 : decode cX7_layReading 142 = .ok (.invokestatic 143, 3) := by decide +kernel
theorem dX7_layReading_145 : decode cX7_layReading 145 = .ok (.istore_n 2, 1) := by decide +kernel
theorem dX7_layReading_146 : decode cX7_layReading 146 = .ok (.goto (-124), 3) := by decide +kernel
theorem dX7_layReading_149 : decode cX7_layReading 149 = .ok (.iload_n 3, 1) := by decide +kernel
theorem dX7_layReading_150 : decode cX7_layReading 150 = .ok (.ireturn, 1) := by decide +kernel
theorem dX7_occurrence_0 : decode cX7_occurrence 0 = .ok (.iload_n 1, 1) := by decide +kernel
theorem dX7_occurrence_1 : decode cX7_occurrence 1 = .ok (.ifCond .lt 12, 3) := by decide +kernel
theorem dX7_occurrence_4 : decode cX7_occurrence 4 = .ok (.iload_n 2, 1) := by decide +kernel
theorem dX7_occurrence_5 : decode cX7_occurrence 5 = .ok (.iconst 0, 1) := by decide +kernel
theorem dX7_occurrence_6 : decode cX7_occurrence 6 = .ok (.iconst 2, 1) := by decide +kernel
theorem dX7_occurrence_7 : decode cX7_occurrence 7 = .ok (.invokestatic 60, 3) := by decide +kernel
theorem dX7_occurrence_10 : decode cX7_occurrence 10 = .ok (.ifCond .ne 5, 3) := by decide +kernel
theorem dX7_occurrence_13 : decode cX7_occurrence 13 = .ok (.iconst (-1), 1) := by decide +kernel
theorem dX7_occurrence_14 : decode cX7_occurrence 14 = .ok (.ireturn, 1) := by decide +kernel
theorem dX7_occurrence_15 : decode cX7_occurrence 15 = .ok (.aload_n 0, 1) := by decide +kernel
theorem dX7_occurrence_16 : decode cX7_occurrence 16 = .ok (.invokevirtual 165, 3) := by decide +kernel
theorem dX7_occurrence_19 : decode cX7_occurrence 19 = .ok (.istore_n 3, 1) := by decide +kernel
theorem dX7_occurrence_20 : decode cX7_occurrence 20 = .ok (.iload_n 3, 1) := by decide +kernel
theorem dX7_occurrence_21 : decode cX7_occurrence 21 = .ok (.bipush (-9), 2) := by decide +kernel
theorem dX7_occurrence_23 : decode cX7_occurrence 23 = .ok (.if_icmp .ne 6, 3) := by decide +kernel
theorem dX7_occurrence_26 : decode cX7_occurrence 26 = .ok (.bipush (-2), 2) := by decide +kernel
theorem dX7_occurrence_28 : decode cX7_occurrence 28 = .ok (.ireturn, 1) := by decide +kernel
theorem dX7_occurrence_29 : decode cX7_occurrence 29 = .ok (.iload_n 1, 1) := by decide +kernel
theorem dX7_occurrence_30 : decode cX7_occurrence 30 = .ok (.iload_n 3, 1) := by decide +kernel
theorem dX7_occurrence_31 : decode cX7_occurrence 31 = .ok (.if_icmp .lt 6, 3) := by decide +kernel
theorem dX7_occurrence_34 : decode cX7_occurrence 34 = .ok (.bipush (-9), 2) := by decide +kernel
theorem dX7_occurrence_36 : decode cX7_occurrence 36 = .ok (.ireturn, 1) := by decide +kernel
theorem dX7_occurrence_37 : decode cX7_occurrence 37 = .ok (.iload_n 2, 1) := by decide +kernel
theorem dX7_occurrence_38 : decode cX7_occurrence 38 = .ok (.ifCond .ne 12, 3) := by decide +kernel
theorem dX7_occurrence_41 : decode cX7_occurrence 41 = .ok (.aload_n 0, 1) := by decide +kernel
theorem dX7_occurrence_42 : decode cX7_occurrence 42 = .ok (.getfield 33, 3) := by decide +kernel
theorem dX7_occurrence_45 : decode cX7_occurrence 45 = .ok (.iload_n 1, 1) := by decide +kernel
theorem dX7_occurrence_46 : decode cX7_occurrence 46 = .ok (.iaload, 1) := by decide +kernel
theorem dX7_occurrence_47 : decode cX7_occurrence 47 = .ok (.goto 23, 3) := by decide +kernel
theorem dX7_occurrence_50 : decode cX7_occurrence 50 = .ok (.iload_n 2, 1) := by decide +kernel
theorem dX7_occurrence_51 : decode cX7_occurrence 51 = .ok (.iconst 1, 1) := by decide +kernel
theorem dX7_occurrence_52 : decode cX7_occurrence 52 = .ok (.if_icmp .ne 12, 3) := by decide +kernel
theorem dX7_occurrence_55 : decode cX7_occurrence 55 = .ok (.aload_n 0, 1) := by decide +kernel
theorem dX7_occurrence_56 : decode cX7_occurrence 56 = .ok (.getfield 36, 3) := by decide +kernel
theorem dX7_occurrence_59 : decode cX7_occurrence 59 = .ok (.iload_n 1, 1) := by decide +kernel
theorem dX7_occurrence_60 : decode cX7_occurrence 60 = .ok (.iaload, 1) := by decide +kernel
theorem dX7_occurrence_61 : decode cX7_occurrence 61 = .ok (.goto 9, 3) := by decide +kernel
theorem dX7_occurrence_64 : decode cX7_occurrence 64 = .ok (.aload_n 0, 1) := by decide +kernel
theorem dX7_occurrence_65 : decode cX7_occurrence 65 = .ok (.getfield 39, 3) := by decide +kernel
theorem dX7_occurrence_68 : decode cX7_occurrence 68 = .ok (.iload_n 1, 1) := by decide +kernel
theorem dX7_occurrence_69 : decode cX7_occurrence 69 = .ok (.iaload, 1) := by decide +kernel
theorem dX7_occurrence_70 : decode cX7_occurrence 70 = .ok (.ireturn, 1) := by decide +kernel
theorem dX7_value_0 : decode cX7_value 0 = .ok (.aload_n 0, 1) := by decide +kernel
theorem dX7_value_1 : decode cX7_value 1 = .ok (.iload_n 1, 1) := by decide +kernel
theorem dX7_value_2 : decode cX7_value 2 = .ok (.invokevirtual 99, 3) := by decide +kernel
theorem dX7_value_5 : decode cX7_value 5 = .ok (.ifCond .eq 7, 3) := by decide +kernel
theorem dX7_value_8 : decode cX7_value 8 = .ok (.iload_n 2, 1) := by decide +kernel
theorem dX7_value_9 : decode cX7_value 9 = .ok (.ifCond .ge 5, 3) := by decide +kernel
theorem dX7_value_12 : decode cX7_value 12 = .ok (.iconst (-1), 1) := by decide +kernel
theorem dX7_value_13 : decode cX7_value 13 = .ok (.ireturn, 1) := by decide +kernel
theorem dX7_value_14 : decode cX7_value 14 = .ok (.aload_n 0, 1) := by decide +kernel
theorem dX7_value_15 : decode cX7_value 15 = .ok (.invokevirtual 165, 3) := by decide +kernel
theorem dX7_value_18 : decode cX7_value 18 = .ok (.istore_n 3, 1) := by decide +kernel
theorem dX7_value_19 : decode cX7_value 19 = .ok (.iload_n 3, 1) := by decide +kernel
theorem dX7_value_20 : decode cX7_value 20 = .ok (.bipush (-9), 2) := by decide +kernel
theorem dX7_value_22 : decode cX7_value 22 = .ok (.if_icmp .ne 6, 3) := by decide +kernel
theorem dX7_value_25 : decode cX7_value 25 = .ok (.bipush (-2), 2) := by decide +kernel
theorem dX7_value_27 : decode cX7_value 27 = .ok (.ireturn, 1) := by decide +kernel
theorem dX7_value_28 : decode cX7_value 28 = .ok (.iconst 0, 1) := by decide +kernel
theorem dX7_value_29 : decode cX7_value 29 = .ok (.istore 4, 2) := by decide +kernel
theorem dX7_value_31 : decode cX7_value 31 = .ok (.iconst 0, 1) := by decide +kernel
theorem dX7_value_32 : decode cX7_value 32 = .ok (.istore 5, 2) := by decide +kernel
theorem dX7_value_34 : decode cX7_value 34 = .ok (.iload 5, 2) := by decide +kernel
theorem dX7_value_36 : decode cX7_value 36 = .ok (.iload_n 3, 1) := by decide +kernel
theorem dX7_value_37 : decode cX7_value 37 = .ok (.if_icmp .ge 37, 3) := by decide +kernel
theorem dX7_value_40 : decode cX7_value 40 = .ok (.aload_n 0, 1) := by decide +kernel
theorem dX7_value_41 : decode cX7_value 41 = .ok (.getfield 33, 3) := by decide +kernel
theorem dX7_value_44 : decode cX7_value 44 = .ok (.iload 5, 2) := by decide +kernel
theorem dX7_value_46 : decode cX7_value 46 = .ok (.iaload, 1) := by decide +kernel
theorem dX7_value_47 : decode cX7_value 47 = .ok (.iload_n 1, 1) := by decide +kernel
theorem dX7_value_48 : decode cX7_value 48 = .ok (.if_icmp .ne 20, 3) := by decide +kernel
theorem dX7_value_51 : decode cX7_value 51 = .ok (.iload 4, 2) := by decide +kernel
theorem dX7_value_53 : decode cX7_value 53 = .ok (.iload_n 2, 1) := by decide +kernel
theorem dX7_value_54 : decode cX7_value 54 = .ok (.if_icmp .ne 11, 3) := by decide +kernel
theorem dX7_value_57 : decode cX7_value 57 = .ok (.aload_n 0, 1) := by decide +kernel
theorem dX7_value_58 : decode cX7_value 58 = .ok (.getfield 39, 3) := by decide +kernel
theorem dX7_value_61 : decode cX7_value 61 = .ok (.iload 5, 2) := by decide +kernel
theorem dX7_value_63 : decode cX7_value 63 = .ok (.iaload, 1) := by decide +kernel
theorem dX7_value_64 : decode cX7_value 64 = .ok (.ireturn, 1) := by decide +kernel
theorem dX7_value_65 : decode cX7_value 65 = .ok (.iinc 4 1, 3) := by decide +kernel
theorem dX7_value_68 : decode cX7_value 68 = .ok (.iinc 5 1, 3) := by decide +kernel
theorem dX7_value_71 : decode cX7_value 71 = .ok (.goto (-37), 3) := by decide +kernel
theorem dX7_value_74 : decode cX7_value 74 = .ok (.iload 4, 2) := by decide +kernel
theorem dX7_value_76 : decode cX7_value 76 = .ok (.ifCond .ne 19, 3) := by decide +kernel
theorem dX7_value_79 : decode cX7_value 79 = .ok (.iload_n 2, 1) := by decide +kernel
theorem dX7_value_80 : decode cX7_value 80 = .ok (.ifCond .ne 15, 3) := by decide +kernel
theorem dX7_value_83 : decode cX7_value 83 = .ok (.aload_n 0, 1) := by decide +kernel
theorem dX7_value_84 : decode cX7_value 84 = .ok (.getfield 7, 3) := by decide +kernel
theorem dX7_value_87 : decode cX7_value 87 = .ok (.bipush 38, 2) := by decide +kernel
theorem dX7_value_89 : decode cX7_value 89 = .ok (.iload_n 1, 1) := by decide +kernel
theorem dX7_value_90 : decode cX7_value 90 = .ok (.iadd, 1) := by decide +kernel
theorem dX7_value_91 : decode cX7_value 91 = .ok (.iaload, 1) := by decide +kernel
theorem dX7_value_92 : decode cX7_value 92 = .ok (.goto 5, 3) := by decide +kernel
theorem dX7_value_95 : decode cX7_value 95 = .ok (.bipush (-9), 2) := by decide +kernel
theorem dX7_value_97 : decode cX7_value 97 = .ok (.ireturn, 1) := by decide +kernel
theorem dX7_next_0 : decode cX7_next 0 = .ok (.aload_n 0, 1) := by decide +kernel
theorem dX7_next_1 : decode cX7_next 1 = .ok (.invokevirtual 156, 3) := by decide +kernel
theorem dX7_next_4 : decode cX7_next 4 = .ok (.iconst 0, 1) := by decide +kernel
theorem dX7_next_5 : decode cX7_next 5 = .ok (.istore_n 1, 1) := by decide +kernel
theorem dX7_next_6 : decode cX7_next 6 = .ok (.iconst 0, 1) := by decide +kernel
theorem dX7_next_7 : decode cX7_next 7 = .ok (.istore_n 2, 1) := by decide +kernel
theorem dX7_next_8 : decode cX7_next 8 = .ok (.iconst 0, 1) := by decide +kernel
theorem dX7_next_9 : decode cX7_next 9 = .ok (.istore_n 3, 1) := by decide +kernel
theorem dX7_next_10 : decode cX7_next 10 = .ok (.iload_n 3, 1) := by decide +kernel
theorem dX7_next_11 : decode cX7_next 11 = .ok (.sipush 4096, 3) := by decide +kernel
theorem dX7_next_14 : decode cX7_next 14 = .ok (.if_icmp .ge 37, 3) := by decide +kernel
theorem dX7_next_17 : decode cX7_next 17 = .ok (.aload_n 0, 1) := by decide +kernel
theorem dX7_next_18 : decode cX7_next 18 = .ok (.getfield 26, 3) := by decide +kernel
theorem dX7_next_21 : decode cX7_next 21 = .ok (.sipush 4096, 3) := by decide +kernel
theorem dX7_next_24 : decode cX7_next 24 = .ok (.aload_n 0, 1) := by decide +kernel
theorem dX7_next_25 : decode cX7_next 25 = .ok (.getfield 64, 3) := by decide +kernel
theorem dX7_next_28 : decode cX7_next 28 = .ok (.imul, 1) := by decide +kernel
theorem dX7_next_29 : decode cX7_next 29 = .ok (.iload_n 3, 1) := by decide +kernel
theorem dX7_next_30 : decode cX7_next 30 = .ok (.iadd, 1) := by decide +kernel
theorem dX7_next_31 : decode cX7_next 31 = .ok (.baload, 1) := by decide +kernel
theorem dX7_next_32 : decode cX7_next 32 = .ok (.ifCond .eq 13, 3) := by decide +kernel
theorem dX7_next_35 : decode cX7_next 35 = .ok (.iconst 1, 1) := by decide +kernel
theorem dX7_next_36 : decode cX7_next 36 = .ok (.istore_n 2, 1) := by decide +kernel
theorem dX7_next_37 : decode cX7_next 37 = .ok (.iload_n 1, 1) := by decide +kernel
theorem dX7_next_38 : decode cX7_next 38 = .ok (.aload_n 0, 1) := by decide +kernel
theorem dX7_next_39 : decode cX7_next 39 = .ok (.iload_n 3, 1) := by decide +kernel
theorem dX7_next_40 : decode cX7_next 40 = .ok (.invokevirtual 168, 3) := by decide +kernel
theorem dX7_next_43 : decode cX7_next 43 = .ok (.ior, 1) := by decide +kernel
theorem dX7_next_44 : decode cX7_next 44 = .ok (.istore_n 1, 1) := by decide +kernel
theorem dX7_next_45 : decode cX7_next 45 = .ok (.iinc 3 1, 3) := by decide +kernel
theorem dX7_next_48 : decode cX7_next 48 = .ok (.goto (-38), 3) := by decide +kernel
theorem dX7_next_51 : decode cX7_next 51 = .ok (.iload_n 2, 1) := by decide +kernel
theorem dX7_next_52 : decode cX7_next 52 = .ok (.ifCond .eq 7, 3) := by decide +kernel
theorem dX7_next_55 : decode cX7_next 55 = .ok (.iload_n 1, 1) := by decide +kernel
theorem dX7_next_56 : decode cX7_next 56 = .ok (.goto 5, 3) := by decide +kernel
theorem dX7_next_59 : decode cX7_next 59 = .ok (.bipush (-9), 2) := by decide +kernel
theorem dX7_next_61 : decode cX7_next 61 = .ok (.ireturn, 1) := by decide +kernel
theorem dX7_layValue_0 : decode cX7_layValue 0 = .ok (.iload_n 1, 1) := by decide +kernel
theorem dX7_layValue_1 : decode cX7_layValue 1 = .ok (.istore 4, 2) := by decide +kernel
theorem dX7_layValue_3 : decode cX7_layValue 3 = .ok (.aload_n 0, 1) := by decide +kernel
theorem dX7_layValue_4 : decode cX7_layValue 4 = .ok (.getfield 7, 3) := by decide +kernel
theorem dX7_layValue_7 : decode cX7_layValue 7 = .ok (.bipush 20, 2) := by decide +kernel
theorem dX7_layValue_9 : decode cX7_layValue 9 = .ok (.iload_n 2, 1) := by decide +kernel
theorem dX7_layValue_10 : decode cX7_layValue 10 = .ok (.iadd, 1) := by decide +kernel
theorem dX7_layValue_11 : decode cX7_layValue 11 = .ok (.iaload, 1) := by decide +kernel
theorem dX7_layValue_12 : decode cX7_layValue 12 = .ok (.iconst 2, 1) := by decide +kernel
theorem dX7_layValue_13 : decode cX7_layValue 13 = .ok (.if_icmp .ne 17, 3) := by decide +kernel
theorem dX7_layValue_16 : decode cX7_layValue 16 = .ok (.aload_n 0, 1) := by decide +kernel
theorem dX7_layValue_17 : decode cX7_layValue 17 = .ok (.getfield 42, 3) := by decide +kernel
theorem dX7_layValue_20 : decode cX7_layValue 20 = .ok (.iload 4, 2) := by decide +kernel
theorem dX7_layValue_22 : decode cX7_layValue 22 = .ok (.bipush 65, 2) := by decide +kernel
theorem dX7_layValue_24 : decode cX7_layValue 24 = .ok (.iload_n 3, 1) := by decide +kernel
theorem dX7_layValue_25 : decode cX7_layValue 25 = .ok (.iadd, 1) := by decide +kernel
theorem dX7_layValue_26 : decode cX7_layValue 26 = .ok (.iastore, 1) := by decide +kernel
theorem dX7_layValue_27 : decode cX7_layValue 27 = .ok (.iinc 4 1, 3) := by decide +kernel
theorem dX7_layValue_30 : decode cX7_layValue 30 = .ok (.aload_n 0, 1) := by decide +kernel
theorem dX7_layValue_31 : decode cX7_layValue 31 = .ok (.getfield 7, 3) := by decide +kernel
theorem dX7_layValue_34 : decode cX7_layValue 34 = .ok (.bipush 20, 2) := by decide +kernel
theorem dX7_layValue_36 : decode cX7_layValue 36 = .ok (.iload_n 2, 1) := by decide +kernel
theorem dX7_layValue_37 : decode cX7_layValue 37 = .ok (.iadd, 1) := by decide +kernel
theorem dX7_layValue_38 : decode cX7_layValue 38 = .ok (.iaload, 1) := by decide +kernel
theorem dX7_layValue_39 : decode cX7_layValue 39 = .ok (.iconst 1, 1) := by decide +kernel
theorem dX7_layValue_40 : decode cX7_layValue 40 = .ok (.if_icmp .ne 69, 3) := by decide +kernel
theorem dX7_layValue_43 : decode cX7_layValue 43 = .ok (.iload_n 3, 1) := by decide +kernel
theorem dX7_layValue_44 : decode cX7_layValue 44 = .ok (.bipush 99, 2) := by decide +kernel
theorem dX7_layValue_46 : decode cX7_layValue 46 = .ok (.if_icmp .le 20, 3) := by decide +kernel
theorem dX7_layValue_49 : decode cX7_layValue 49 = .ok (.aload_n 0, 1) := by decide +kernel
theorem dX7_layValue_50 : decode cX7_layValue 50 = .ok (.getfield 42, 3) := by decide +kernel
theorem dX7_layValue_53 : decode cX7_layValue 53 = .ok (.iload 4, 2) := by decide +kernel
theorem dX7_layValue_55 : decode cX7_layValue 55 = .ok (.bipush 48, 2) := by decide +kernel
theorem dX7_layValue_57 : decode cX7_layValue 57 = .ok (.iload_n 3, 1) := by decide +kernel
theorem dX7_layValue_58 : decode cX7_layValue 58 = .ok (.bipush 100, 2) := by decide +kernel
theorem dX7_layValue_60 : decode cX7_layValue 60 = .ok (.idiv, 1) := by decide +kernel
theorem dX7_layValue_61 : decode cX7_layValue 61 = .ok (.iadd, 1) := by decide +kernel
theorem dX7_layValue_62 : decode cX7_layValue 62 = .ok (.iastore, 1) := by decide +kernel
theorem dX7_layValue_63 : decode cX7_layValue 63 = .ok (.iinc 4 1, 3) := by decide +kernel
theorem dX7_layValue_66 : decode cX7_layValue 66 = .ok (.iload_n 3, 1) := by decide +kernel
theorem dX7_layValue_67 : decode cX7_layValue 67 = .ok (.bipush 9, 2) := by decide +kernel
theorem dX7_layValue_69 : decode cX7_layValue 69 = .ok (.if_icmp .le 23, 3) := by decide +kernel
theorem dX7_layValue_72 : decode cX7_layValue 72 = .ok (.aload_n 0, 1) := by decide +kernel
theorem dX7_layValue_73 : decode cX7_layValue 73 = .ok (.getfield 42, 3) := by decide +kernel
theorem dX7_layValue_76 : decode cX7_layValue 76 = .ok (.iload 4, 2) := by decide +kernel
theorem dX7_layValue_78 : decode cX7_layValue 78 = .ok (.bipush 48, 2) := by decide +kernel
theorem dX7_layValue_80 : decode cX7_layValue 80 = .ok (.iload_n 3, 1) := by decide +kernel
theorem dX7_layValue_81 : decode cX7_layValue 81 = .ok (.bipush 10, 2) := by decide +kernel
theorem dX7_layValue_83 : decode cX7_layValue 83 = .ok (.idiv, 1) := by decide +kernel
theorem dX7_layValue_84 : decode cX7_layValue 84 = .ok (.bipush 10, 2) := by decide +kernel
theorem dX7_layValue_86 : decode cX7_layValue 86 = .ok (.irem, 1) := by decide +kernel
theorem dX7_layValue_87 : decode cX7_layValue 87 = .ok (.iadd, 1) := by decide +kernel
theorem dX7_layValue_88 : decode cX7_layValue 88 = .ok (.iastore, 1) := by decide +kernel
theorem dX7_layValue_89 : decode cX7_layValue 89 = .ok (.iinc 4 1, 3) := by decide +kernel
theorem dX7_layValue_92 : decode cX7_layValue 92 = .ok (.aload_n 0, 1) := by decide +kernel
theorem dX7_layValue_93 : decode cX7_layValue 93 = .ok (.getfield 42, 3) := by decide +kernel
theorem dX7_layValue_96 : decode cX7_layValue 96 = .ok (.iload 4, 2) := by decide +kernel
theorem dX7_layValue_98 : decode cX7_layValue 98 = .ok (.bipush 48, 2) := by decide +kernel
theorem dX7_layValue_100 : decode cX7_layValue 100 = .ok (.iload_n 3, 1) := by decide +kernel
theorem dX7_layValue_101 : decode cX7_layValue 101 = .ok (.bipush 10, 2) := by decide +kernel
theorem dX7_layValue_103 : decode cX7_layValue 103 = .ok (.irem, 1) := by decide +kernel
theorem dX7_layValue_104 : decode cX7_layValue 104 = .ok (.iadd, 1) := by decide +kernel
theorem dX7_layValue_105 : decode cX7_layValue 105 = .ok (.iastore, 1) := by decide +kernel
theorem dX7_layValue_106 : decode cX7_layValue 106 = .ok (.iinc 4 1, 3) := by decide +kernel
theorem dX7_layValue_109 : decode cX7_layValue 109 = .ok (.iload 4, 2) := by decide +kernel
theorem dX7_layValue_111 : decode cX7_layValue 111 = .ok (.ireturn, 1) := by decide +kernel
theorem dX7_layForm_0 : decode cX7_layForm 0 = .ok (.iconst 0, 1) := by decide +kernel
theorem dX7_layForm_1 : decode cX7_layForm 1 = .ok (.istore_n 2, 1) := by decide +kernel
theorem dX7_layForm_2 : decode cX7_layForm 2 = .ok (.iconst 0, 1) := by decide +kernel
theorem dX7_layForm_3 : decode cX7_layForm 3 = .ok (.istore_n 3, 1) := by decide +kernel
theorem dX7_layForm_4 : decode cX7_layForm 4 = .ok (.iload_n 3, 1) := by decide +kernel
theorem dX7_layForm_5 : decode cX7_layForm 5 = .ok (.aload_n 0, 1) := by decide +kernel
theorem dX7_layForm_6 : decode cX7_layForm 6 = .ok (.getfield 7, 3) := by decide +kernel
theorem dX7_layForm_9 : decode cX7_layForm 9 = .ok (.iconst 0, 1) := by decide +kernel
theorem dX7_layForm_10 : decode cX7_layForm 10 = .ok (.iaload, 1) := by decide +kernel
theorem dX7_layForm_11 : decode cX7_layForm 11 = .ok (.if_icmp .ge 112, 3) := by decide +kernel
theorem dX7_layForm_14 : decode cX7_layForm 14 = .ok (.iconst 0, 1) := by decide +kernel
theorem dX7_layForm_15 : decode cX7_layForm 15 = .ok (.istore 4, 2) := by decide +kernel
theorem dX7_layForm_17 : decode cX7_layForm 17 = .ok (.iload 4, 2) := by decide +kernel
theorem dX7_layForm_19 : decode cX7_layForm 19 = .ok (.iload_n 1, 1) := by decide +kernel
theorem dX7_layForm_20 : decode cX7_layForm 20 = .ok (.if_icmp .ge 97, 3) := by decide +kernel
theorem dX7_layForm_23 : decode cX7_layForm 23 = .ok (.aload_n 0, 1) := by decide +kernel
theorem dX7_layForm_24 : decode cX7_layForm 24 = .ok (.getfield 33, 3) := by decide +kernel
theorem dX7_layForm_27 : decode cX7_layForm 27 = .ok (.iload 4, 2) := by decide +kernel
theorem dX7_layForm_29 : decode cX7_layForm 29 = .ok (.iaload, 1) := by decide +kernel
theorem dX7_layForm_30 : decode cX7_layForm 30 = .ok (.iload_n 3, 1) := by decide +kernel
theorem dX7_layForm_31 : decode cX7_layForm 31 = .ok (.if_icmp .ne 80, 3) := by decide +kernel
theorem dX7_layForm_34 : decode cX7_layForm 34 = .ok (.iload_n 2, 1) := by decide +kernel
theorem dX7_layForm_35 : decode cX7_layForm 35 = .ok (.ifCond .le 27, 3) := by decide +kernel
theorem dX7_layForm_38 : decode cX7_layForm 38 = .ok (.aload_n 0, 1) := by decide +kernel
theorem dX7_layForm_39 : decode cX7_layForm 39 = .ok (.getfield 7, 3) := by decide +kernel
theorem dX7_layForm_42 : decode cX7_layForm 42 = .ok (.iconst 1, 1) := by decide +kernel
theorem dX7_layForm_43 : decode cX7_layForm 43 = .ok (.iaload, 1) := by decide +kernel
theorem dX7_layForm_44 : decode cX7_layForm 44 = .ok (.ifCond .eq 18, 3) := by decide +kernel
theorem dX7_layForm_47 : decode cX7_layForm 47 = .ok (.aload_n 0, 1) := by decide +kernel
theorem dX7_layForm_48 : decode cX7_layForm 48 = .ok (.getfield 42, 3) := by decide +kernel
theorem dX7_layForm_51 : decode cX7_layForm 51 = .ok (.iload_n 2, 1) := by decide +kernel
theorem dX7_layForm_52 : decode cX7_layForm 52 = .ok (.aload_n 0, 1) := by decide +kernel
theorem dX7_layForm_53 : decode cX7_layForm 53 = .ok (.getfield 7, 3) := by decide +kernel
theorem dX7_layForm_56 : decode cX7_layForm 56 = .ok (.iconst 1, 1) := by decide +kernel
theorem dX7_layForm_57 : decode cX7_layForm 57 = .ok (.iaload, 1) := by decide +kernel
theorem dX7_layForm_58 : decode cX7_layForm 58 = .ok (.iastore, 1) := by decide +kernel
theorem dX7_layForm_59 : decode cX7_layForm 59 = .ok (.iinc 2 1, 3) := by decide +kernel
theorem dX7_layForm_62 : decode cX7_layForm 62 = .ok (.iconst 0, 1) := by decide +kernel
theorem dX7_layForm_63 : decode cX7_layForm 63 = .ok (.istore 5, 2) := by decide +kernel
theorem dX7_layForm_65 : decode cX7_layForm 65 = .ok (.iload 5, 2) := by decide +kernel
theorem dX7_layForm_67 : decode cX7_layForm 67 = .ok (.aload_n 0, 1) := by decide +kernel
theorem dX7_layForm_68 : decode cX7_layForm 68 = .ok (.iload_n 3, 1) := by decide +kernel
theorem dX7_layForm_69 : decode cX7_layForm 69 = .ok (.invokevirtual 71, 3) := by decide +kernel
theorem dX7_layForm_72 : decode cX7_layForm 72 = .ok (.if_icmp .ge 25, 3) := by decide +kernel
theorem dX7_layForm_75 : decode cX7_layForm 75 = .ok (.aload_n 0, 1) := by decide +kernel
theorem dX7_layForm_76 : decode cX7_layForm 76 = .ok (.getfield 42, 3) := by decide +kernel
theorem dX7_layForm_79 : decode cX7_layForm 79 = .ok (.iload_n 2, 1) := by decide +kernel
theorem dX7_layForm_80 : decode cX7_layForm 80 = .ok (.aload_n 0, 1) := by decide +kernel
theorem dX7_layForm_81 : decode cX7_layForm 81 = .ok (.iload_n 3, 1) := by decide +kernel
theorem dX7_layForm_82 : decode cX7_layForm 82 = .ok (.iload 5, 2) := by decide +kernel
theorem dX7_layForm_84 : decode cX7_layForm 84 = .ok (.invokevirtual 67, 3) := by decide +kernel
theorem dX7_layForm_87 : decode cX7_layForm 87 = .ok (.iastore, 1) := by decide +kernel
theorem dX7_layForm_88 : decode cX7_layForm 88 = .ok (.iinc 2 1, 3) := by decide +kernel
theorem dX7_layForm_91 : decode cX7_layForm 91 = .ok (.iinc 5 1, 3) := by decide +kernel
theorem dX7_layForm_94 : decode cX7_layForm 94 = .ok (.goto (-29), 3) := by decide +kernel
theorem dX7_layForm_97 : decode cX7_layForm 97 = .ok (.aload_n 0, 1) := by decide +kernel
theorem dX7_layForm_98 : decode cX7_layForm 98 = .ok (.iload_n 2, 1) := by decide +kernel
theorem dX7_layForm_99 : decode cX7_layForm 99 = .ok (.iload_n 3, 1) := by decide +kernel
theorem dX7_layForm_100 : decode cX7_layForm 100 = .ok (.aload_n 0, 1) := by decide +kernel
theorem dX7_layForm_101 : decode cX7_layForm 101 = .ok (.getfield 39, 3) := by decide +kernel
theorem dX7_layForm_104 : decode cX7_layForm 104 = .ok (.iload 4, 2) := by decide +kernel
theorem dX7_layForm_106 : decode cX7_layForm 106 = .ok (.iaload, 1) := by decide +kernel
theorem dX7_layForm_107 : decode cX7_layForm 107 = .ok (.invokevirtual 171, 3) := by decide +kernel
theorem dX7_layForm_110 : decode cX7_layForm 110 = .ok (.istore_n 2, 1) := by decide +kernel
theorem dX7_layForm_111 : decode cX7_layForm 111 = .ok (.iinc 4 1, 3) := by decide +kernel
theorem dX7_layForm_114 : decode cX7_layForm 114 = .ok (.goto (-97), 3) := by decide +kernel
theorem dX7_layForm_117 : decode cX7_layForm 117 = .ok (.iinc 3 1, 3) := by decide +kernel
theorem dX7_layForm_120 : decode cX7_layForm 120 = .ok (.goto (-116), 3) := by decide +kernel
theorem dX7_layForm_123 : decode cX7_layForm 123 = .ok (.iload_n 2, 1) := by decide +kernel
theorem dX7_layForm_124 : decode cX7_layForm 124 = .ok (.ireturn, 1) := by decide +kernel
theorem dX7_normal_0 : decode cX7_normal 0 = .ok (.iload_n 1, 1) := by decide +kernel
theorem dX7_normal_1 : decode cX7_normal 1 = .ok (.ifCond .ge 5, 3) := by decide +kernel
theorem dX7_normal_4 : decode cX7_normal 4 = .ok (.iconst (-1), 1) := by decide +kernel
theorem dX7_normal_5 : decode cX7_normal 5 = .ok (.ireturn, 1) := by decide +kernel
theorem dX7_normal_6 : decode cX7_normal 6 = .ok (.aload_n 0, 1) := by decide +kernel
theorem dX7_normal_7 : decode cX7_normal 7 = .ok (.invokevirtual 165, 3) := by decide +kernel
theorem dX7_normal_10 : decode cX7_normal 10 = .ok (.istore_n 2, 1) := by decide +kernel
theorem dX7_normal_11 : decode cX7_normal 11 = .ok (.iload_n 2, 1) := by decide +kernel
theorem dX7_normal_12 : decode cX7_normal 12 = .ok (.bipush (-9), 2) := by decide +kernel
theorem dX7_normal_14 : decode cX7_normal 14 = .ok (.if_icmp .ne 6, 3) := by decide +kernel
theorem dX7_normal_17 : decode cX7_normal 17 = .ok (.bipush (-2), 2) := by decide +kernel
theorem dX7_normal_19 : decode cX7_normal 19 = .ok (.ireturn, 1) := by decide +kernel
theorem dX7_normal_20 : decode cX7_normal 20 = .ok (.iload_n 1, 1) := by decide +kernel
theorem dX7_normal_21 : decode cX7_normal 21 = .ok (.aload_n 0, 1) := by decide +kernel
theorem dX7_normal_22 : decode cX7_normal 22 = .ok (.iload_n 2, 1) := by decide +kernel
theorem dX7_normal_23 : decode cX7_normal 23 = .ok (.invokevirtual 175, 3) := by decide +kernel
theorem dX7_normal_26 : decode cX7_normal 26 = .ok (.if_icmp .ge 12, 3) := by decide +kernel
theorem dX7_normal_29 : decode cX7_normal 29 = .ok (.aload_n 0, 1) := by decide +kernel
theorem dX7_normal_30 : decode cX7_normal 30 = .ok (.getfield 42, 3) := by decide +kernel
theorem dX7_normal_33 : decode cX7_normal 33 = .ok (.iload_n 1, 1) := by decide +kernel
theorem dX7_normal_34 : decode cX7_normal 34 = .ok (.iaload, 1) := by decide +kernel
theorem dX7_normal_35 : decode cX7_normal 35 = .ok (.goto 5, 3) := by decide +kernel
theorem dX7_normal_38 : decode cX7_normal 38 = .ok (.bipush (-9), 2) := by decide +kernel
theorem dX7_normal_40 : decode cX7_normal 40 = .ok (.ireturn, 1) := by decide +kernel
theorem dX7_isState_0 : decode cX7_isState 0 = .ok (.iconst 0, 1) := by decide +kernel
theorem dX7_isState_1 : decode cX7_isState 1 = .ok (.istore_n 2, 1) := by decide +kernel
theorem dX7_isState_2 : decode cX7_isState 2 = .ok (.iload_n 2, 1) := by decide +kernel
theorem dX7_isState_3 : decode cX7_isState 3 = .ok (.bipush 6, 2) := by decide +kernel
theorem dX7_isState_5 : decode cX7_isState 5 = .ok (.if_icmp .ge 42, 3) := by decide +kernel
theorem dX7_isState_8 : decode cX7_isState 8 = .ok (.iload_n 1, 1) := by decide +kernel
theorem dX7_isState_9 : decode cX7_isState 9 = .ok (.iload_n 2, 1) := by decide +kernel
theorem dX7_isState_10 : decode cX7_isState 10 = .ok (.invokestatic 125, 3) := by decide +kernel
theorem dX7_isState_13 : decode cX7_isState 13 = .ok (.iload_n 2, 1) := by decide +kernel
theorem dX7_isState_14 : decode cX7_isState 14 = .ok (.aload_n 0, 1) := by decide +kernel
theorem dX7_isState_15 : decode cX7_isState 15 = .ok (.getfield 7, 3) := by decide +kernel
theorem dX7_isState_18 : decode cX7_isState 18 = .ok (.iconst 0, 1) := by decide +kernel
theorem dX7_isState_19 : decode cX7_isState 19 = .ok (.iaload, 1) := by decide +kernel
theorem dX7_isState_20 : decode cX7_isState 20 = .ok (.if_icmp .ge 15, 3) := by decide +kernel
theorem dX7_isState_23 : decode cX7_isState 23 = .ok (.aload_n 0, 1) := by decide +kernel
theorem dX7_isState_24 : decode cX7_isState 24 = .ok (.getfield 7, 3) := by decide +kernel
theorem dX7_isState_27 : decode cX7_isState 27 = .ok (.bipush 32, 2) := by decide +kernel
theorem dX7_isState_29 : decode cX7_isState 29 = .ok (.iload_n 2, 1) := by decide +kernel
theorem dX7_isState_30 : decode cX7_isState 30 = .ok (.iadd, 1) := by decide +kernel
theorem dX7_isState_31 : decode cX7_isState 31 = .ok (.iaload, 1) := by decide +kernel
theorem dX7_isState_32 : decode cX7_isState 32 = .ok (.goto 4, 3) := by decide +kernel
theorem dX7_isState_35 : decode cX7_isState 35 = .ok (.iconst 0, 1) := by decide +kernel
theorem dX7_isState_36 : decode cX7_isState 36 = .ok (.if_icmp .le 5, 3) := by decide +kernel
theorem dX7_isState_39 : decode cX7_isState 39 = .ok (.iconst 0, 1) := by decide +kernel
theorem dX7_isState_40 : decode cX7_isState 40 = .ok (.ireturn, 1) := by decide +kernel
theorem dX7_isState_41 : decode cX7_isState 41 = .ok (.iinc 2 1, 3) := by decide +kernel
theorem dX7_isState_44 : decode cX7_isState 44 = .ok (.goto (-42), 3) := by decide +kernel
theorem dX7_isState_47 : decode cX7_isState 47 = .ok (.iconst 1, 1) := by decide +kernel
theorem dX7_isState_48 : decode cX7_isState 48 = .ok (.ireturn, 1) := by decide +kernel
theorem dX7_layOrders_0 : decode cX7_layOrders 0 = .ok (.sipush 4095, 3) := by decide +kernel
theorem dX7_layOrders_3 : decode cX7_layOrders 3 = .ok (.istore_n 1, 1) := by decide +kernel
theorem dX7_layOrders_4 : decode cX7_layOrders 4 = .ok (.iload_n 1, 1) := by decide +kernel
theorem dX7_layOrders_5 : decode cX7_layOrders 5 = .ok (.ifCond .lt 108, 3) := by decide +kernel
theorem dX7_layOrders_8 : decode cX7_layOrders 8 = .ok (.aload_n 0, 1) := by decide +kernel
theorem dX7_layOrders_9 : decode cX7_layOrders 9 = .ok (.getfield 45, 3) := by decide +kernel
theorem dX7_layOrders_12 : decode cX7_layOrders 12 = .ok (.iload_n 1, 1) := by decide +kernel
theorem dX7_layOrders_13 : decode cX7_layOrders 13 = .ok (.lconst 0, 1) := by decide +kernel
theorem dX7_layOrders_14 : decode cX7_layOrders 14 = .ok (.lastore, 1) := by decide +kernel
theorem dX7_layOrders_15 : decode cX7_layOrders 15 = .ok (.aload_n 0, 1) := by decide +kernel
theorem dX7_layOrders_16 : decode cX7_layOrders 16 = .ok (.getfield 49, 3) := by decide +kernel
theorem dX7_layOrders_19 : decode cX7_layOrders 19 = .ok (.iload_n 1, 1) := by decide +kernel
theorem dX7_layOrders_20 : decode cX7_layOrders 20 = .ok (.iload_n 1, 1) := by decide +kernel
theorem dX7_layOrders_21 : decode cX7_layOrders 21 = .ok (.ifCond .ne 7, 3) := by decide +kernel
theorem dX7_layOrders_24 : decode cX7_layOrders 24 = .ok (.lconst 1, 1) := by decide +kernel
theorem dX7_layOrders_25 : decode cX7_layOrders 25 = .ok (.goto 4, 3) := by decide +kernel
theorem dX7_layOrders_28 : decode cX7_layOrders 28 = .ok (.lconst 0, 1) := by decide +kernel
theorem dX7_layOrders_29 : decode cX7_layOrders 29 = .ok (.lastore, 1) := by decide +kernel
theorem dX7_layOrders_30 : decode cX7_layOrders 30 = .ok (.aload_n 0, 1) := by decide +kernel
theorem dX7_layOrders_31 : decode cX7_layOrders 31 = .ok (.iload_n 1, 1) := by decide +kernel
theorem dX7_layOrders_32 : decode cX7_layOrders 32 = .ok (.invokevirtual 178, 3) := by decide +kernel
theorem dX7_layOrders_35 : decode cX7_layOrders 35 = .ok (.ifCond .eq 72, 3) := by decide +kernel
theorem dX7_layOrders_38 : decode cX7_layOrders 38 = .ok (.aload_n 0, 1) := by decide +kernel
theorem dX7_layOrders_39 : decode cX7_layOrders 39 = .ok (.getfield 45, 3) := by decide +kernel
theorem dX7_layOrders_42 : decode cX7_layOrders 42 = .ok (.iload_n 1, 1) := by decide +kernel
theorem dX7_layOrders_43 : decode cX7_layOrders 43 = .ok (.aload_n 0, 1) := by decide +kernel
theorem dX7_layOrders_44 : decode cX7_layOrders 44 = .ok (.iload_n 1, 1) := by decide +kernel
theorem dX7_layOrders_45 : decode cX7_layOrders 45 = .ok (.invokevirtual 146, 3) := by decide +kernel
theorem dX7_layOrders_48 : decode cX7_layOrders 48 = .ok (.ifCond .eq 7, 3) := by decide +kernel
theorem dX7_layOrders_51 : decode cX7_layOrders 51 = .ok (.lconst 1, 1) := by decide +kernel
theorem dX7_layOrders_52 : decode cX7_layOrders 52 = .ok (.goto 4, 3) := by decide +kernel
theorem dX7_layOrders_55 : decode cX7_layOrders 55 = .ok (.lconst 0, 1) := by decide +kernel
theorem dX7_layOrders_56 : decode cX7_layOrders 56 = .ok (.lastore, 1) := by decide +kernel
theorem dX7_layOrders_57 : decode cX7_layOrders 57 = .ok (.iconst 0, 1) := by decide +kernel
theorem dX7_layOrders_58 : decode cX7_layOrders 58 = .ok (.istore_n 2, 1) := by decide +kernel
theorem dX7_layOrders_59 : decode cX7_layOrders 59 = .ok (.iload_n 2, 1) := by decide +kernel
theorem dX7_layOrders_60 : decode cX7_layOrders 60 = .ok (.aload_n 0, 1) := by decide +kernel
theorem dX7_layOrders_61 : decode cX7_layOrders 61 = .ok (.getfield 7, 3) := by decide +kernel
theorem dX7_layOrders_64 : decode cX7_layOrders 64 = .ok (.iconst 0, 1) := by decide +kernel
theorem dX7_layOrders_65 : decode cX7_layOrders 65 = .ok (.iaload, 1) := by decide +kernel
theorem dX7_layOrders_66 : decode cX7_layOrders 66 = .ok (.if_icmp .ge 41, 3) := by decide +kernel
theorem dX7_layOrders_69 : decode cX7_layOrders 69 = .ok (.aload_n 0, 1) := by decide +kernel
theorem dX7_layOrders_70 : decode cX7_layOrders 70 = .ok (.getfield 45, 3) := by decide +kernel
theorem dX7_layOrders_73 : decode cX7_layOrders 73 = .ok (.iload_n 1, 1) := by decide +kernel
theorem dX7_layOrders_74 : decode cX7_layOrders 74 = .ok (.dup2, 1) := by decide +kernel
theorem dX7_layOrders_75 : decode cX7_layOrders 75 = .ok (.laload, 1) := by decide +kernel
theorem dX7_layOrders_76 : decode cX7_layOrders 76 = .ok (.aload_n 0, 1) := by decide +kernel
theorem dX7_layOrders_77 : decode cX7_layOrders 77 = .ok (.iload_n 1, 1) := by decide +kernel
theorem dX7_layOrders_78 : decode cX7_layOrders 78 = .ok (.iload_n 2, 1) := by decide +kernel
theorem dX7_layOrders_79 : decode cX7_layOrders 79 = .ok (.invokevirtual 128, 3) := by decide +kernel
theorem dX7_layOrders_82 : decode cX7_layOrders 82 = .ok (.ifCond .eq 16, 3) := by decide +kernel
theorem dX7_layOrders_85 : decode cX7_layOrders 85 = .ok (.aload_n 0, 1) := by decide +kernel
theorem dX7_layOrders_86 : decode cX7_layOrders 86 = .ok (.getfield 45, 3) := by decide +kernel
theorem dX7_layOrders_89 : decode cX7_layOrders 89 = .ok (.iload_n 1, 1) := by decide +kernel
theorem dX7_layOrders_90 : decode cX7_layOrders 90 = .ok (.iload_n 2, 1) := by decide +kernel
theorem dX7_layOrders_91 : decode cX7_layOrders 91 = .ok (.invokestatic 143, 3) := by decide +kernel
theorem dX7_layOrders_94 : decode cX7_layOrders 94 = .ok (.laload, 1) := by decide +kernel
theorem dX7_layOrders_95 : decode cX7_layOrders 95 = .ok (.goto 4, 3) := by decide +kernel
theorem dX7_layOrders_98 : decode cX7_layOrders 98 = .ok (.lconst 0, 1) := by decide +kernel
theorem dX7_layOrders_99 : decode cX7_layOrders 99 = .ok (.ladd, 1) := by decide +kernel
theorem dX7_layOrders_100 : decode cX7_layOrders 100 = .ok (.lastore, 1) := by decide +kernel
theorem dX7_layOrders_101 : decode cX7_layOrders 101 = .ok (.iinc 2 1, 3) := by decide +kernel
theorem dX7_layOrders_104 : decode cX7_layOrders 104 = .ok (.goto (-45), 3) := by decide +kernel
theorem dX7_layOrders_107 : decode cX7_layOrders 107 = .ok (.iinc 1 (-1), 3) := by decide +kernel
theorem dX7_layOrders_110 : decode cX7_layOrders 110 = .ok (.goto (-106), 3) := by decide +kernel
theorem dX7_layOrders_113 : decode cX7_layOrders 113 = .ok (.iconst 0, 1) := by decide +kernel
theorem dX7_layOrders_114 : decode cX7_layOrders 114 = .ok (.istore_n 1, 1) := by decide +kernel
theorem dX7_layOrders_115 : decode cX7_layOrders 115 = .ok (.iload_n 1, 1) := by decide +kernel
theorem dX7_layOrders_116 : decode cX7_layOrders 116 = .ok (.sipush 4096, 3) := by decide +kernel
theorem dX7_layOrders_119 : decode cX7_layOrders 119 = .ok (.if_icmp .ge 66, 3) := by decide +kernel
theorem dX7_layOrders_122 : decode cX7_layOrders 122 = .ok (.iconst 0, 1) := by decide +kernel
theorem dX7_layOrders_123 : decode cX7_layOrders 123 = .ok (.istore_n 2, 1) := by decide +kernel
theorem dX7_layOrders_124 : decode cX7_layOrders 124 = .ok (.iload_n 2, 1) := by decide +kernel
theorem dX7_layOrders_125 : decode cX7_layOrders 125 = .ok (.aload_n 0, 1) := by decide +kernel
theorem dX7_layOrders_126 : decode cX7_layOrders 126 = .ok (.getfield 7, 3) := by decide +kernel
theorem dX7_layOrders_129 : decode cX7_layOrders 129 = .ok (.iconst 0, 1) := by decide +kernel
theorem dX7_layOrders_130 : decode cX7_layOrders 130 = .ok (.iaload, 1) := by decide +kernel
theorem dX7_layOrders_131 : decode cX7_layOrders 131 = .ok (.if_icmp .ge 48, 3) := by decide +kernel
theorem dX7_layOrders_134 : decode cX7_layOrders 134 = .ok (.aload_n 0, 1) := by decide +kernel
theorem dX7_layOrders_135 : decode cX7_layOrders 135 = .ok (.getfield 49, 3) := by decide +kernel
theorem dX7_layOrders_138 : decode cX7_layOrders 138 = .ok (.iload_n 1, 1) := by decide +kernel
theorem dX7_layOrders_139 : decode cX7_layOrders 139 = .ok (.laload, 1) := by decide +kernel
theorem dX7_layOrders_140 : decode cX7_layOrders 140 = .ok (.lconst 0, 1) := by decide +kernel
theorem dX7_layOrders_141 : decode cX7_layOrders 141 = .ok (.lcmp, 1) := by decide +kernel
theorem dX7_layOrders_142 : decode cX7_layOrders 142 = .ok (.ifCond .le 37, 3) := by decide +kernel
theorem dX7_layOrders_145 : decode cX7_layOrders 145 = .ok (.aload_n 0, 1) := by decide +kernel
theorem dX7_layOrders_146 : decode cX7_layOrders 146 = .ok (.iload_n 1, 1) := by decide +kernel
theorem dX7_layOrders_147 : decode cX7_layOrders 147 = .ok (.iload_n 2, 1) := by decide +kernel
theorem dX7_layOrders_148 : decode cX7_layOrders 148 = .ok (.invokevirtual 128, 3) := by decide +kernel
theorem dX7_layOrders_151 : decode cX7_layOrders 151 = .ok (.ifCond .eq 22, 3) := by decide +kernel
theorem dX7_layOrders_154 : decode cX7_layOrders 154 = .ok (.aload_n 0, 1) := by decide +kernel
theorem dX7_layOrders_155 : decode cX7_layOrders 155 = .ok (.getfield 49, 3) := by decide +kernel
theorem dX7_layOrders_158 : decode cX7_layOrders 158 = .ok (.iload_n 1, 1) := by decide +kernel
theorem dX7_layOrders_159 : decode cX7_layOrders 159 = .ok (.iload_n 2, 1) := by decide +kernel
theorem dX7_layOrders_160 : decode cX7_layOrders 160 = .ok (.invokestatic 143, 3) := by decide +kernel
theorem dX7_layOrders_163 : decode cX7_layOrders 163 = .ok (.dup2, 1) := by decide +kernel
theorem dX7_layOrders_164 : decode cX7_layOrders 164 = .ok (.laload, 1) := by decide +kernel
theorem dX7_layOrders_165 : decode cX7_layOrders 165 = .ok (.aload_n 0, 1) := by decide +kernel
theorem dX7_layOrders_166 : decode cX7_layOrders 166 = .ok (.getfield 49, 3) := by decide +kernel
theorem dX7_layOrders_169 : decode cX7_layOrders 169 = .ok (.iload_n 1, 1) := by decide +kernel
theorem dX7_layOrders_170 : decode cX7_layOrders 170 = .ok (.laload, 1) := by decide +kernel
theorem dX7_layOrders_171 : decode cX7_layOrders 171 = .ok (.ladd, 1) := by decide +kernel
theorem dX7_layOrders_172 : decode cX7_layOrders 172 = .ok (.lastore, 1) := by decide +kernel
theorem dX7_layOrders_173 : decode cX7_layOrders 173 = .ok (.iinc 2 1, 3) := by decide +kernel
theorem dX7_layOrders_176 : decode cX7_layOrders 176 = .ok (.goto (-52), 3) := by decide +kernel
theorem dX7_layOrders_179 : decode cX7_layOrders 179 = .ok (.iinc 1 1, 3) := by decide +kernel
theorem dX7_layOrders_182 : decode cX7_layOrders 182 = .ok (.goto (-67), 3) := by decide +kernel
theorem dX7_layOrders_185 : decode cX7_layOrders 185 = .ok (.return_, 1) := by decide +kernel
theorem dX7_sizeOf_0 : decode cX7_sizeOf 0 = .ok (.iconst 0, 1) := by decide +kernel
theorem dX7_sizeOf_1 : decode cX7_sizeOf 1 = .ok (.istore_n 1, 1) := by decide +kernel
theorem dX7_sizeOf_2 : decode cX7_sizeOf 2 = .ok (.iconst 0, 1) := by decide +kernel
theorem dX7_sizeOf_3 : decode cX7_sizeOf 3 = .ok (.istore_n 2, 1) := by decide +kernel
theorem dX7_sizeOf_4 : decode cX7_sizeOf 4 = .ok (.iload_n 2, 1) := by decide +kernel
theorem dX7_sizeOf_5 : decode cX7_sizeOf 5 = .ok (.bipush 6, 2) := by decide +kernel
theorem dX7_sizeOf_7 : decode cX7_sizeOf 7 = .ok (.if_icmp .ge 17, 3) := by decide +kernel
theorem dX7_sizeOf_10 : decode cX7_sizeOf 10 = .ok (.iload_n 1, 1) := by decide +kernel
theorem dX7_sizeOf_11 : decode cX7_sizeOf 11 = .ok (.iload_n 0, 1) := by decide +kernel
theorem dX7_sizeOf_12 : decode cX7_sizeOf 12 = .ok (.iload_n 2, 1) := by decide +kernel
theorem dX7_sizeOf_13 : decode cX7_sizeOf 13 = .ok (.invokestatic 125, 3) := by decide +kernel
theorem dX7_sizeOf_16 : decode cX7_sizeOf 16 = .ok (.iadd, 1) := by decide +kernel
theorem dX7_sizeOf_17 : decode cX7_sizeOf 17 = .ok (.istore_n 1, 1) := by decide +kernel
theorem dX7_sizeOf_18 : decode cX7_sizeOf 18 = .ok (.iinc 2 1, 3) := by decide +kernel
theorem dX7_sizeOf_21 : decode cX7_sizeOf 21 = .ok (.goto (-17), 3) := by decide +kernel
theorem dX7_sizeOf_24 : decode cX7_sizeOf 24 = .ok (.iload_n 1, 1) := by decide +kernel
theorem dX7_sizeOf_25 : decode cX7_sizeOf 25 = .ok (.ireturn, 1) := by decide +kernel
theorem dX7_orders_0 : decode cX7_orders 0 = .ok (.iload_n 1, 1) := by decide +kernel
theorem dX7_orders_1 : decode cX7_orders 1 = .ok (.iconst (-1), 1) := by decide +kernel
theorem dX7_orders_2 : decode cX7_orders 2 = .ok (.bipush 18, 2) := by decide +kernel
theorem dX7_orders_4 : decode cX7_orders 4 = .ok (.invokestatic 60, 3) := by decide +kernel
theorem dX7_orders_7 : decode cX7_orders 7 = .ok (.ifCond .ne 7, 3) := by decide +kernel
theorem dX7_orders_10 : decode cX7_orders 10 = .ok (.ldc2_w 181, 3) := by decide +kernel
theorem dX7_orders_13 : decode cX7_orders 13 = .ok (.lreturn, 1) := by decide +kernel
theorem dX7_orders_14 : decode cX7_orders 14 = .ok (.aload_n 0, 1) := by decide +kernel
theorem dX7_orders_15 : decode cX7_orders 15 = .ok (.invokevirtual 183, 3) := by decide +kernel
theorem dX7_orders_18 : decode cX7_orders 18 = .ok (.iload_n 1, 1) := by decide +kernel
theorem dX7_orders_19 : decode cX7_orders 19 = .ok (.iconst (-1), 1) := by decide +kernel
theorem dX7_orders_20 : decode cX7_orders 20 = .ok (.if_icmp .ne 10, 3) := by decide +kernel
theorem dX7_orders_23 : decode cX7_orders 23 = .ok (.aload_n 0, 1) := by decide +kernel
theorem dX7_orders_24 : decode cX7_orders 24 = .ok (.getfield 45, 3) := by decide +kernel
theorem dX7_orders_27 : decode cX7_orders 27 = .ok (.iconst 0, 1) := by decide +kernel
theorem dX7_orders_28 : decode cX7_orders 28 = .ok (.laload, 1) := by decide +kernel
theorem dX7_orders_29 : decode cX7_orders 29 = .ok (.lreturn, 1) := by decide +kernel
theorem dX7_orders_30 : decode cX7_orders 30 = .ok (.lconst 0, 1) := by decide +kernel
theorem dX7_orders_31 : decode cX7_orders 31 = .ok (.lstore_n 2, 1) := by decide +kernel
theorem dX7_orders_32 : decode cX7_orders 32 = .ok (.iconst 0, 1) := by decide +kernel
theorem dX7_orders_33 : decode cX7_orders 33 = .ok (.istore 4, 2) := by decide +kernel
theorem dX7_orders_35 : decode cX7_orders 35 = .ok (.iload 4, 2) := by decide +kernel
theorem dX7_orders_37 : decode cX7_orders 37 = .ok (.sipush 4096, 3) := by decide +kernel
theorem dX7_orders_40 : decode cX7_orders 40 = .ok (.if_icmp .ge 53, 3) := by decide +kernel
theorem dX7_orders_43 : decode cX7_orders 43 = .ok (.lload_n 2, 1) := by decide +kernel
theorem dX7_orders_44 : decode cX7_orders 44 = .ok (.aload_n 0, 1) := by decide +kernel
theorem dX7_orders_45 : decode cX7_orders 45 = .ok (.getfield 49, 3) := by decide +kernel
theorem dX7_orders_48 : decode cX7_orders 48 = .ok (.iload 4, 2) := by decide +kernel
theorem dX7_orders_50 : decode cX7_orders 50 = .ok (.laload, 1) := by decide +kernel
theorem dX7_orders_51 : decode cX7_orders 51 = .ok (.lconst 0, 1) := by decide +kernel
theorem dX7_orders_52 : decode cX7_orders 52 = .ok (.lcmp, 1) := by decide +kernel
theorem dX7_orders_53 : decode cX7_orders 53 = .ok (.ifCond .le 31, 3) := by decide +kernel
theorem dX7_orders_56 : decode cX7_orders 56 = .ok (.iload 4, 2) := by decide +kernel
theorem dX7_orders_58 : decode cX7_orders 58 = .ok (.invokestatic 186, 3) := by decide +kernel
theorem dX7_orders_61 : decode cX7_orders 61 = .ok (.iload_n 1, 1) := by decide +kernel
theorem dX7_orders_62 : decode cX7_orders 62 = .ok (.if_icmp .ne 22, 3) := by decide +kernel
theorem dX7_orders_65 : decode cX7_orders 65 = .ok (.aload_n 0, 1) := by decide +kernel
theorem dX7_orders_66 : decode cX7_orders 66 = .ok (.iload 4, 2) := by decide +kernel
theorem dX7_orders_68 : decode cX7_orders 68 = .ok (.invokevirtual 146, 3) := by decide +kernel
theorem dX7_orders_71 : decode cX7_orders 71 = .ok (.ifCond .eq 13, 3) := by decide +kernel
theorem dX7_orders_74 : decode cX7_orders 74 = .ok (.aload_n 0, 1) := by decide +kernel
theorem dX7_orders_75 : decode cX7_orders 75 = .ok (.getfield 49, 3) := by decide +kernel
theorem dX7_orders_78 : decode cX7_orders 78 = .ok (.iload 4, 2) := by decide +kernel
theorem dX7_orders_80 : decode cX7_orders 80 = .ok (.laload, 1) := by decide +kernel
theorem dX7_orders_81 : decode cX7_orders 81 = .ok (.goto 4, 3) := by decide +kernel
theorem dX7_orders_84 : decode cX7_orders 84 = .ok (.lconst 0, 1) := by decide +kernel
theorem dX7_orders_85 : decode cX7_orders 85 = .ok (.ladd, 1) := by decide +kernel
theorem dX7_orders_86 : decode cX7_orders 86 = .ok (.lstore_n 2, 1) := by decide +kernel
theorem dX7_orders_87 : decode cX7_orders 87 = .ok (.iinc 4 1, 3) := by decide +kernel
theorem dX7_orders_90 : decode cX7_orders 90 = .ok (.goto (-55), 3) := by decide +kernel
theorem dX7_orders_93 : decode cX7_orders 93 = .ok (.lload_n 2, 1) := by decide +kernel
theorem dX7_orders_94 : decode cX7_orders 94 = .ok (.lreturn, 1) := by decide +kernel
theorem dX7_order_0 : decode cX7_order 0 = .ok (.lload_n 1, 1) := by decide +kernel
theorem dX7_order_1 : decode cX7_order 1 = .ok (.lconst 0, 1) := by decide +kernel
theorem dX7_order_2 : decode cX7_order 2 = .ok (.lcmp, 1) := by decide +kernel
theorem dX7_order_3 : decode cX7_order 3 = .ok (.ifCond .lt 7, 3) := by decide +kernel
theorem dX7_order_6 : decode cX7_order 6 = .ok (.iload_n 3, 1) := by decide +kernel
theorem dX7_order_7 : decode cX7_order 7 = .ok (.ifCond .ge 5, 3) := by decide +kernel
theorem dX7_order_10 : decode cX7_order 10 = .ok (.iconst (-1), 1) := by decide +kernel
theorem dX7_order_11 : decode cX7_order 11 = .ok (.ireturn, 1) := by decide +kernel
theorem dX7_order_12 : decode cX7_order 12 = .ok (.aload_n 0, 1) := by decide +kernel
theorem dX7_order_13 : decode cX7_order 13 = .ok (.invokevirtual 183, 3) := by decide +kernel
theorem dX7_order_16 : decode cX7_order 16 = .ok (.lload_n 1, 1) := by decide +kernel
theorem dX7_order_17 : decode cX7_order 17 = .ok (.aload_n 0, 1) := by decide +kernel
theorem dX7_order_18 : decode cX7_order 18 = .ok (.getfield 45, 3) := by decide +kernel
theorem dX7_order_21 : decode cX7_order 21 = .ok (.iconst 0, 1) := by decide +kernel
theorem dX7_order_22 : decode cX7_order 22 = .ok (.laload, 1) := by decide +kernel
theorem dX7_order_23 : decode cX7_order 23 = .ok (.lcmp, 1) := by decide +kernel
theorem dX7_order_24 : decode cX7_order 24 = .ok (.ifCond .lt 6, 3) := by decide +kernel
theorem dX7_order_27 : decode cX7_order 27 = .ok (.bipush (-9), 2) := by decide +kernel
theorem dX7_order_29 : decode cX7_order 29 = .ok (.ireturn, 1) := by decide +kernel
theorem dX7_order_30 : decode cX7_order 30 = .ok (.lload_n 1, 1) := by decide +kernel
theorem dX7_order_31 : decode cX7_order 31 = .ok (.lstore 4, 2) := by decide +kernel
theorem dX7_order_33 : decode cX7_order 33 = .ok (.iconst 0, 1) := by decide +kernel
theorem dX7_order_34 : decode cX7_order 34 = .ok (.istore 6, 2) := by decide +kernel
theorem dX7_order_36 : decode cX7_order 36 = .ok (.iconst 0, 1) := by decide +kernel
theorem dX7_order_37 : decode cX7_order 37 = .ok (.istore 7, 2) := by decide +kernel
theorem dX7_order_39 : decode cX7_order 39 = .ok (.iload 7, 2) := by decide +kernel
theorem dX7_order_41 : decode cX7_order 41 = .ok (.iload_n 3, 1) := by decide +kernel
theorem dX7_order_42 : decode cX7_order 42 = .ok (.if_icmp .gt 122, 3) := by decide +kernel
theorem dX7_order_45 : decode cX7_order 45 = .ok (.aload_n 0, 1) := by decide +kernel
theorem dX7_order_46 : decode cX7_order 46 = .ok (.iload 6, 2) := by decide +kernel
theorem dX7_order_48 : decode cX7_order 48 = .ok (.invokevirtual 146, 3) := by decide +kernel
theorem dX7_order_51 : decode cX7_order 51 = .ok (.ifCond .eq 19, 3) := by decide +kernel
theorem dX7_order_54 : decode cX7_order 54 = .ok (.lload 4, 2) := by decide +kernel
theorem dX7_order_56 : decode cX7_order 56 = .ok (.lconst 0, 1) := by decide +kernel
theorem dX7_order_57 : decode cX7_order 57 = .ok (.lcmp, 1) := by decide +kernel
theorem dX7_order_58 : decode cX7_order 58 = .ok (.ifCond .ne 6, 3) := by decide +kernel
theorem dX7_order_61 : decode cX7_order 61 = .ok (.bipush (-9), 2) := by decide +kernel
theorem dX7_order_63 : decode cX7_order 63 = .ok (.ireturn, 1) := by decide +kernel
theorem dX7_order_64 : decode cX7_order 64 = .ok (.lload 4, 2) := by decide +kernel
theorem dX7_order_66 : decode cX7_order 66 = .ok (.lconst 1, 1) := by decide +kernel
theorem dX7_order_67 : decode cX7_order 67 = .ok (.lsub, 1) := by decide +kernel
theorem dX7_order_68 : decode cX7_order 68 = .ok (.lstore 4, 2) := by decide +kernel
theorem dX7_order_70 : decode cX7_order 70 = .ok (.iconst 0, 1) := by decide +kernel
theorem dX7_order_71 : decode cX7_order 71 = .ok (.istore 8, 2) := by decide +kernel
theorem dX7_order_73 : decode cX7_order 73 = .ok (.aload_n 0, 1) := by decide +kernel
theorem dX7_order_74 : decode cX7_order 74 = .ok (.iload 6, 2) := by decide +kernel
theorem dX7_order_76 : decode cX7_order 76 = .ok (.iload 8, 2) := by decide +kernel
theorem dX7_order_78 : decode cX7_order 78 = .ok (.invokevirtual 128, 3) := by decide +kernel
theorem dX7_order_81 : decode cX7_order 81 = .ok (.ifCond .eq 21, 3) := by decide +kernel
theorem dX7_order_84 : decode cX7_order 84 = .ok (.lload 4, 2) := by decide +kernel
theorem dX7_order_86 : decode cX7_order 86 = .ok (.aload_n 0, 1) := by decide +kernel
theorem dX7_order_87 : decode cX7_order 87 = .ok (.getfield 45, 3) := by decide +kernel
theorem dX7_order_90 : decode cX7_order 90 = .ok (.iload 6, 2) := by decide +kernel
theorem dX7_order_92 : decode cX7_order 92 = .ok (.iload 8, 2) := by decide +kernel
theorem dX7_order_94 : decode cX7_order 94 = .ok (.invokestatic 143, 3) := by decide +kernel
theorem dX7_order_97 : decode cX7_order 97 = .ok (.laload, 1) := by decide +kernel
theorem dX7_order_98 : decode cX7_order 98 = .ok (.lcmp, 1) := by decide +kernel
theorem dX7_order_99 : decode cX7_order 99 = .ok (.ifCond .lt 41, 3) := by decide +kernel
theorem dX7_order_102 : decode cX7_order 102 = .ok (.lload 4, 2) := by decide +kernel
theorem dX7_order_104 : decode cX7_order 104 = .ok (.aload_n 0, 1) := by decide +kernel
theorem dX7_order_105 : decode cX7_order 105 = .ok (.iload 6, 2) := by decide +kernel
theorem dX7_order_107 : decode cX7_order 107 = .ok (.iload 8, 2) := by decide +kernel
theorem dX7_order_109 : decode cX7_order 109 = .ok (.invokevirtual 128, 3) := by decide +kernel
theorem dX7_order_112 : decode cX7_order 112 = .ok (.ifCond .eq 18, 3) := by decide +kernel
theorem dX7_order_115 : decode cX7_order 115 = .ok (.aload_n 0, 1) := by decide +kernel
theorem dX7_order_116 : decode cX7_order 116 = .ok (.getfield 45, 3) := by decide +kernel
theorem dX7_order_119 : decode cX7_order 119 = .ok (.iload 6, 2) := by decide +kernel
theorem dX7_order_121 : decode cX7_order 121 = .ok (.iload 8, 2) := by decide +kernel
theorem dX7_order_123 : decode cX7_order 123 = .ok (.invokestatic 143, 3) := by decide +kernel
theorem dX7_order_126 : decode cX7_order 126 = .ok (.laload, 1) := by decide +kernel
theorem dX7_order_127 : decode cX7_order 127 = .ok (.goto 4, 3) := by decide +kernel
theorem dX7_order_130 : decode cX7_order 130 = .ok (.lconst 0, 1) := by decide +kernel
theorem dX7_order_131 : decode cX7_order 131 = .ok (.lsub, 1) := by decide +kernel
theorem dX7_order_132 : decode cX7_order 132 = .ok (.lstore 4, 2) := by decide +kernel
theorem dX7_order_134 : decode cX7_order 134 = .ok (.iinc 8 1, 3) := by decide +kernel
theorem dX7_order_137 : decode cX7_order 137 = .ok (.goto (-64), 3) := by decide +kernel
theorem dX7_order_140 : decode cX7_order 140 = .ok (.iload 7, 2) := by decide +kernel
theorem dX7_order_142 : decode cX7_order 142 = .ok (.iload_n 3, 1) := by decide +kernel
theorem dX7_order_143 : decode cX7_order 143 = .ok (.if_icmp .ne 6, 3) := by decide +kernel
theorem dX7_order_146 : decode cX7_order 146 = .ok (.iload 8, 2) := by decide +kernel
theorem dX7_order_148 : decode cX7_order 148 = .ok (.ireturn, 1) := by decide +kernel
theorem dX7_order_149 : decode cX7_order 149 = .ok (.iload 6, 2) := by decide +kernel
theorem dX7_order_151 : decode cX7_order 151 = .ok (.iload 8, 2) := by decide +kernel
theorem dX7_order_153 : decode cX7_order 153 = .ok (.invokestatic 143, 3) := by decide +kernel
theorem dX7_order_156 : decode cX7_order 156 = .ok (.istore 6, 2) := by decide +kernel
theorem dX7_order_158 : decode cX7_order 158 = .ok (.iinc 7 1, 3) := by decide +kernel
theorem dX7_order_161 : decode cX7_order 161 = .ok (.goto (-122), 3) := by decide +kernel
theorem dX7_order_164 : decode cX7_order 164 = .ok (.bipush (-9), 2) := by decide +kernel
theorem dX7_order_166 : decode cX7_order 166 = .ok (.ireturn, 1) := by decide +kernel
theorem dX7_rank_0 : decode cX7_rank 0 = .ok (.aload_n 0, 1) := by decide +kernel
theorem dX7_rank_1 : decode cX7_rank 1 = .ok (.invokevirtual 165, 3) := by decide +kernel
theorem dX7_rank_4 : decode cX7_rank 4 = .ok (.istore_n 1, 1) := by decide +kernel
theorem dX7_rank_5 : decode cX7_rank 5 = .ok (.iload_n 1, 1) := by decide +kernel
theorem dX7_rank_6 : decode cX7_rank 6 = .ok (.bipush (-9), 2) := by decide +kernel
theorem dX7_rank_8 : decode cX7_rank 8 = .ok (.if_icmp .ne 7, 3) := by decide +kernel
theorem dX7_rank_11 : decode cX7_rank 11 = .ok (.ldc2_w 189, 3) := by decide +kernel
theorem dX7_rank_14 : decode cX7_rank 14 = .ok (.lreturn, 1) := by decide +kernel
theorem dX7_rank_15 : decode cX7_rank 15 = .ok (.aload_n 0, 1) := by decide +kernel
theorem dX7_rank_16 : decode cX7_rank 16 = .ok (.invokevirtual 183, 3) := by decide +kernel
theorem dX7_rank_19 : decode cX7_rank 19 = .ok (.lconst 0, 1) := by decide +kernel
theorem dX7_rank_20 : decode cX7_rank 20 = .ok (.lstore_n 2, 1) := by decide +kernel
theorem dX7_rank_21 : decode cX7_rank 21 = .ok (.iconst 0, 1) := by decide +kernel
theorem dX7_rank_22 : decode cX7_rank 22 = .ok (.istore 4, 2) := by decide +kernel
theorem dX7_rank_24 : decode cX7_rank 24 = .ok (.iconst 0, 1) := by decide +kernel
theorem dX7_rank_25 : decode cX7_rank 25 = .ok (.istore 5, 2) := by decide +kernel
theorem dX7_rank_27 : decode cX7_rank 27 = .ok (.iload 5, 2) := by decide +kernel
theorem dX7_rank_29 : decode cX7_rank 29 = .ok (.iload_n 1, 1) := by decide +kernel
theorem dX7_rank_30 : decode cX7_rank 30 = .ok (.if_icmp .ge 91, 3) := by decide +kernel
theorem dX7_rank_33 : decode cX7_rank 33 = .ok (.lload_n 2, 1) := by decide +kernel
theorem dX7_rank_34 : decode cX7_rank 34 = .ok (.aload_n 0, 1) := by decide +kernel
theorem dX7_rank_35 : decode cX7_rank 35 = .ok (.iload 4, 2) := by decide +kernel
theorem dX7_rank_37 : decode cX7_rank 37 = .ok (.invokevirtual 146, 3) := by decide +kernel
theorem dX7_rank_40 : decode cX7_rank 40 = .ok (.ifCond .eq 7, 3) := by decide +kernel
theorem dX7_rank_43 : decode cX7_rank 43 = .ok (.lconst 1, 1) := by decide +kernel
theorem dX7_rank_44 : decode cX7_rank 44 = .ok (.goto 4, 3) := by decide +kernel
theorem dX7_rank_47 : decode cX7_rank 47 = .ok (.lconst 0, 1) := by decide +kernel
theorem dX7_rank_48 : decode cX7_rank 48 = .ok (.ladd, 1) := by decide +kernel
theorem dX7_rank_49 : decode cX7_rank 49 = .ok (.lstore_n 2, 1) := by decide +kernel
theorem dX7_rank_50 : decode cX7_rank 50 = .ok (.iconst 0, 1) := by decide +kernel
theorem dX7_rank_51 : decode cX7_rank 51 = .ok (.istore 6, 2) := by decide +kernel
theorem dX7_rank_53 : decode cX7_rank 53 = .ok (.iload 6, 2) := by decide +kernel
theorem dX7_rank_55 : decode cX7_rank 55 = .ok (.aload_n 0, 1) := by decide +kernel
theorem dX7_rank_56 : decode cX7_rank 56 = .ok (.getfield 33, 3) := by decide +kernel
theorem dX7_rank_59 : decode cX7_rank 59 = .ok (.iload 5, 2) := by decide +kernel
theorem dX7_rank_61 : decode cX7_rank 61 = .ok (.iaload, 1) := by decide +kernel
theorem dX7_rank_62 : decode cX7_rank 62 = .ok (.if_icmp .ge 39, 3) := by decide +kernel
theorem dX7_rank_65 : decode cX7_rank 65 = .ok (.lload_n 2, 1) := by decide +kernel
theorem dX7_rank_66 : decode cX7_rank 66 = .ok (.aload_n 0, 1) := by decide +kernel
theorem dX7_rank_67 : decode cX7_rank 67 = .ok (.iload 4, 2) := by decide +kernel
theorem dX7_rank_69 : decode cX7_rank 69 = .ok (.iload 6, 2) := by decide +kernel
theorem dX7_rank_71 : decode cX7_rank 71 = .ok (.invokevirtual 128, 3) := by decide +kernel
theorem dX7_rank_74 : decode cX7_rank 74 = .ok (.ifCond .eq 18, 3) := by decide +kernel
theorem dX7_rank_77 : decode cX7_rank 77 = .ok (.aload_n 0, 1) := by decide +kernel
theorem dX7_rank_78 : decode cX7_rank 78 = .ok (.getfield 45, 3) := by decide +kernel
theorem dX7_rank_81 : decode cX7_rank 81 = .ok (.iload 4, 2) := by decide +kernel
theorem dX7_rank_83 : decode cX7_rank 83 = .ok (.iload 6, 2) := by decide +kernel
theorem dX7_rank_85 : decode cX7_rank 85 = .ok (.invokestatic 143, 3) := by decide +kernel
theorem dX7_rank_88 : decode cX7_rank 88 = .ok (.laload, 1) := by decide +kernel
theorem dX7_rank_89 : decode cX7_rank 89 = .ok (.goto 4, 3) := by decide +kernel
theorem dX7_rank_92 : decode cX7_rank 92 = .ok (.lconst 0, 1) := by decide +kernel
theorem dX7_rank_93 : decode cX7_rank 93 = .ok (.ladd, 1) := by decide +kernel
theorem dX7_rank_94 : decode cX7_rank 94 = .ok (.lstore_n 2, 1) := by decide +kernel
theorem dX7_rank_95 : decode cX7_rank 95 = .ok (.iinc 6 1, 3) := by decide +kernel
theorem dX7_rank_98 : decode cX7_rank 98 = .ok (.goto (-45), 3) := by decide +kernel
theorem dX7_rank_101 : decode cX7_rank 101 = .ok (.iload 4, 2) := by decide +kernel
theorem dX7_rank_103 : decode cX7_rank 103 = .ok (.aload_n 0, 1) := by decide +kernel
theorem dX7_rank_104 : decode cX7_rank 104 = .ok (.getfield 33, 3) := by decide +kernel
theorem dX7_rank_107 : decode cX7_rank 107 = .ok (.iload 5, 2) := by decide +kernel
theorem dX7_rank_109 : decode cX7_rank 109 = .ok (.iaload, 1) := by decide +kernel
theorem dX7_rank_110 : decode cX7_rank 110 = .ok (.invokestatic 143, 3) := by decide +kernel
theorem dX7_rank_113 : decode cX7_rank 113 = .ok (.istore 4, 2) := by decide +kernel
theorem dX7_rank_115 : decode cX7_rank 115 = .ok (.iinc 5 1, 3) := by decide +kernel
theorem dX7_rank_118 : decode cX7_rank 118 = .ok (.goto (-91), 3) := by decide +kernel
theorem dX7_rank_121 : decode cX7_rank 121 = .ok (.lload_n 2, 1) := by decide +kernel
theorem dX7_rank_122 : decode cX7_rank 122 = .ok (.lreturn, 1) := by decide +kernel
theorem dX7_keep_0 : decode cX7_keep 0 = .ok (.iload_n 1, 1) := by decide +kernel
theorem dX7_keep_1 : decode cX7_keep 1 = .ok (.iconst 0, 1) := by decide +kernel
theorem dX7_keep_2 : decode cX7_keep 2 = .ok (.iconst 1, 1) := by decide +kernel
theorem dX7_keep_3 : decode cX7_keep 3 = .ok (.invokestatic 60, 3) := by decide +kernel
theorem dX7_keep_6 : decode cX7_keep 6 = .ok (.ifCond .ne 5, 3) := by decide +kernel
theorem dX7_keep_9 : decode cX7_keep 9 = .ok (.iconst (-1), 1) := by decide +kernel
theorem dX7_keep_10 : decode cX7_keep 10 = .ok (.ireturn, 1) := by decide +kernel
theorem dX7_keep_11 : decode cX7_keep 11 = .ok (.iconst 0, 1) := by decide +kernel
theorem dX7_keep_12 : decode cX7_keep 12 = .ok (.istore_n 2, 1) := by decide +kernel
theorem dX7_keep_13 : decode cX7_keep 13 = .ok (.iload_n 2, 1) := by decide +kernel
theorem dX7_keep_14 : decode cX7_keep 14 = .ok (.bipush 50, 2) := by decide +kernel
theorem dX7_keep_16 : decode cX7_keep 16 = .ok (.if_icmp .ge 26, 3) := by decide +kernel
theorem dX7_keep_19 : decode cX7_keep 19 = .ok (.aload_n 0, 1) := by decide +kernel
theorem dX7_keep_20 : decode cX7_keep 20 = .ok (.getfield 16, 3) := by decide +kernel
theorem dX7_keep_23 : decode cX7_keep 23 = .ok (.bipush 50, 2) := by decide +kernel
theorem dX7_keep_25 : decode cX7_keep 25 = .ok (.iload_n 1, 1) := by decide +kernel
theorem dX7_keep_26 : decode cX7_keep 26 = .ok (.imul, 1) := by decide +kernel
theorem dX7_keep_27 : decode cX7_keep 27 = .ok (.iload_n 2, 1) := by decide +kernel
theorem dX7_keep_28 : decode cX7_keep 28 = .ok (.iadd, 1) := by decide +kernel
theorem dX7_keep_29 : decode cX7_keep 29 = .ok (.aload_n 0, 1) := by decide +kernel
theorem dX7_keep_30 : decode cX7_keep 30 = .ok (.getfield 7, 3) := by decide +kernel
theorem dX7_keep_33 : decode cX7_keep 33 = .ok (.iload_n 2, 1) := by decide +kernel
theorem dX7_keep_34 : decode cX7_keep 34 = .ok (.iaload, 1) := by decide +kernel
theorem dX7_keep_35 : decode cX7_keep 35 = .ok (.iastore, 1) := by decide +kernel
theorem dX7_keep_36 : decode cX7_keep 36 = .ok (.iinc 2 1, 3) := by decide +kernel
theorem dX7_keep_39 : decode cX7_keep 39 = .ok (.goto (-26), 3) := by decide +kernel
theorem dX7_keep_42 : decode cX7_keep 42 = .ok (.aload_n 0, 1) := by decide +kernel
theorem dX7_keep_43 : decode cX7_keep 43 = .ok (.dup, 1) := by decide +kernel
theorem dX7_keep_44 : decode cX7_keep 44 = .ok (.getfield 191, 3) := by decide +kernel
theorem dX7_keep_47 : decode cX7_keep 47 = .ok (.iconst 1, 1) := by decide +kernel
theorem dX7_keep_48 : decode cX7_keep 48 = .ok (.iload_n 1, 1) := by decide +kernel
theorem dX7_keep_49 : decode cX7_keep 49 = .ok (.ishl, 1) := by decide +kernel
theorem dX7_keep_50 : decode cX7_keep 50 = .ok (.ior, 1) := by decide +kernel
theorem dX7_keep_51 : decode cX7_keep 51 = .ok (.putfield 191, 3) := by decide +kernel
theorem dX7_keep_54 : decode cX7_keep 54 = .ok (.aload_n 0, 1) := by decide +kernel
theorem dX7_keep_55 : decode cX7_keep 55 = .ok (.getfield 7, 3) := by decide +kernel
theorem dX7_keep_58 : decode cX7_keep 58 = .ok (.iconst 0, 1) := by decide +kernel
theorem dX7_keep_59 : decode cX7_keep 59 = .ok (.iaload, 1) := by decide +kernel
theorem dX7_keep_60 : decode cX7_keep 60 = .ok (.ireturn, 1) := by decide +kernel
theorem dX7_back_0 : decode cX7_back 0 = .ok (.iload_n 1, 1) := by decide +kernel
theorem dX7_back_1 : decode cX7_back 1 = .ok (.iconst 0, 1) := by decide +kernel
theorem dX7_back_2 : decode cX7_back 2 = .ok (.iconst 1, 1) := by decide +kernel
theorem dX7_back_3 : decode cX7_back 3 = .ok (.invokestatic 60, 3) := by decide +kernel
theorem dX7_back_6 : decode cX7_back 6 = .ok (.ifCond .ne 5, 3) := by decide +kernel
theorem dX7_back_9 : decode cX7_back 9 = .ok (.iconst (-1), 1) := by decide +kernel
theorem dX7_back_10 : decode cX7_back 10 = .ok (.ireturn, 1) := by decide +kernel
theorem dX7_back_11 : decode cX7_back 11 = .ok (.aload_n 0, 1) := by decide +kernel
theorem dX7_back_12 : decode cX7_back 12 = .ok (.getfield 191, 3) := by decide +kernel
theorem dX7_back_15 : decode cX7_back 15 = .ok (.iload_n 1, 1) := by decide +kernel
theorem dX7_back_16 : decode cX7_back 16 = .ok (.invokestatic 89, 3) := by decide +kernel
theorem dX7_back_19 : decode cX7_back 19 = .ok (.ifCond .ne 6, 3) := by decide +kernel
theorem dX7_back_22 : decode cX7_back 22 = .ok (.bipush (-2), 2) := by decide +kernel
theorem dX7_back_24 : decode cX7_back 24 = .ok (.ireturn, 1) := by decide +kernel
theorem dX7_back_25 : decode cX7_back 25 = .ok (.aload_n 0, 1) := by decide +kernel
theorem dX7_back_26 : decode cX7_back 26 = .ok (.invokevirtual 86, 3) := by decide +kernel
theorem dX7_back_29 : decode cX7_back 29 = .ok (.iconst 0, 1) := by decide +kernel
theorem dX7_back_30 : decode cX7_back 30 = .ok (.istore_n 2, 1) := by decide +kernel
theorem dX7_back_31 : decode cX7_back 31 = .ok (.iload_n 2, 1) := by decide +kernel
theorem dX7_back_32 : decode cX7_back 32 = .ok (.bipush 50, 2) := by decide +kernel
theorem dX7_back_34 : decode cX7_back 34 = .ok (.if_icmp .ge 26, 3) := by decide +kernel
theorem dX7_back_37 : decode cX7_back 37 = .ok (.aload_n 0, 1) := by decide +kernel
theorem dX7_back_38 : decode cX7_back 38 = .ok (.getfield 7, 3) := by decide +kernel
theorem dX7_back_41 : decode cX7_back 41 = .ok (.iload_n 2, 1) := by decide +kernel
theorem dX7_back_42 : decode cX7_back 42 = .ok (.aload_n 0, 1) := by decide +kernel
theorem dX7_back_43 : decode cX7_back 43 = .ok (.getfield 16, 3) := by decide +kernel
theorem dX7_back_46 : decode cX7_back 46 = .ok (.bipush 50, 2) := by decide +kernel
theorem dX7_back_48 : decode cX7_back 48 = .ok (.iload_n 1, 1) := by decide +kernel
theorem dX7_back_49 : decode cX7_back 49 = .ok (.imul, 1) := by decide +kernel
theorem dX7_back_50 : decode cX7_back 50 = .ok (.iload_n 2, 1) := by decide +kernel
theorem dX7_back_51 : decode cX7_back 51 = .ok (.iadd, 1) := by decide +kernel
theorem dX7_back_52 : decode cX7_back 52 = .ok (.iaload, 1) := by decide +kernel
theorem dX7_back_53 : decode cX7_back 53 = .ok (.iastore, 1) := by decide +kernel
theorem dX7_back_54 : decode cX7_back 54 = .ok (.iinc 2 1, 3) := by decide +kernel
theorem dX7_back_57 : decode cX7_back 57 = .ok (.goto (-26), 3) := by decide +kernel
theorem dX7_back_60 : decode cX7_back 60 = .ok (.aload_n 0, 1) := by decide +kernel
theorem dX7_back_61 : decode cX7_back 61 = .ok (.getfield 7, 3) := by decide +kernel
theorem dX7_back_64 : decode cX7_back 64 = .ok (.iconst 0, 1) := by decide +kernel
theorem dX7_back_65 : decode cX7_back 65 = .ok (.iaload, 1) := by decide +kernel
theorem dX7_back_66 : decode cX7_back 66 = .ok (.ireturn, 1) := by decide +kernel
theorem dJ6_bitCount_0f7a4_0 : decode cJ6_bitCount_0f7a4 0 = .ok (.iload_n 0, 1) := by decide +kernel
theorem dJ6_bitCount_0f7a4_1 : decode cJ6_bitCount_0f7a4 1 = .ok (.iload_n 0, 1) := by decide +kernel
theorem dJ6_bitCount_0f7a4_2 : decode cJ6_bitCount_0f7a4 2 = .ok (.iconst 1, 1) := by decide +kernel
theorem dJ6_bitCount_0f7a4_3 : decode cJ6_bitCount_0f7a4 3 = .ok (.iushr, 1) := by decide +kernel
theorem dJ6_bitCount_0f7a4_4 : decode cJ6_bitCount_0f7a4 4 = .ok (.ldc_w 265, 3) := by decide +kernel
theorem dJ6_bitCount_0f7a4_7 : decode cJ6_bitCount_0f7a4 7 = .ok (.iand, 1) := by decide +kernel
theorem dJ6_bitCount_0f7a4_8 : decode cJ6_bitCount_0f7a4 8 = .ok (.isub, 1) := by decide +kernel
theorem dJ6_bitCount_0f7a4_9 : decode cJ6_bitCount_0f7a4 9 = .ok (.istore_n 0, 1) := by decide +kernel
theorem dJ6_bitCount_0f7a4_10 : decode cJ6_bitCount_0f7a4 10 = .ok (.iload_n 0, 1) := by decide +kernel
theorem dJ6_bitCount_0f7a4_11 : decode cJ6_bitCount_0f7a4 11 = .ok (.ldc_w 266, 3) := by decide +kernel
theorem dJ6_bitCount_0f7a4_14 : decode cJ6_bitCount_0f7a4 14 = .ok (.iand, 1) := by decide +kernel
theorem dJ6_bitCount_0f7a4_15 : decode cJ6_bitCount_0f7a4 15 = .ok (.iload_n 0, 1) := by decide +kernel
theorem dJ6_bitCount_0f7a4_16 : decode cJ6_bitCount_0f7a4 16 = .ok (.iconst 2, 1) := by decide +kernel
theorem dJ6_bitCount_0f7a4_17 : decode cJ6_bitCount_0f7a4 17 = .ok (.iushr, 1) := by decide +kernel
theorem dJ6_bitCount_0f7a4_18 : decode cJ6_bitCount_0f7a4 18 = .ok (.ldc_w 266, 3) := by decide +kernel
theorem dJ6_bitCount_0f7a4_21 : decode cJ6_bitCount_0f7a4 21 = .ok (.iand, 1) := by decide +kernel
theorem dJ6_bitCount_0f7a4_22 : decode cJ6_bitCount_0f7a4 22 = .ok (.iadd, 1) := by decide +kernel
theorem dJ6_bitCount_0f7a4_23 : decode cJ6_bitCount_0f7a4 23 = .ok (.istore_n 0, 1) := by decide +kernel
theorem dJ6_bitCount_0f7a4_24 : decode cJ6_bitCount_0f7a4 24 = .ok (.iload_n 0, 1) := by decide +kernel
theorem dJ6_bitCount_0f7a4_25 : decode cJ6_bitCount_0f7a4 25 = .ok (.iload_n 0, 1) := by decide +kernel
theorem dJ6_bitCount_0f7a4_26 : decode cJ6_bitCount_0f7a4 26 = .ok (.iconst 4, 1) := by decide +kernel
theorem dJ6_bitCount_0f7a4_27 : decode cJ6_bitCount_0f7a4 27 = .ok (.iushr, 1) := by decide +kernel
theorem dJ6_bitCount_0f7a4_28 : decode cJ6_bitCount_0f7a4 28 = .ok (.iadd, 1) := by decide +kernel
theorem dJ6_bitCount_0f7a4_29 : decode cJ6_bitCount_0f7a4 29 = .ok (.ldc_w 267, 3) := by decide +kernel
theorem dJ6_bitCount_0f7a4_32 : decode cJ6_bitCount_0f7a4 32 = .ok (.iand, 1) := by decide +kernel
theorem dJ6_bitCount_0f7a4_33 : decode cJ6_bitCount_0f7a4 33 = .ok (.istore_n 0, 1) := by decide +kernel
theorem dJ6_bitCount_0f7a4_34 : decode cJ6_bitCount_0f7a4 34 = .ok (.iload_n 0, 1) := by decide +kernel
theorem dJ6_bitCount_0f7a4_35 : decode cJ6_bitCount_0f7a4 35 = .ok (.iload_n 0, 1) := by decide +kernel
theorem dJ6_bitCount_0f7a4_36 : decode cJ6_bitCount_0f7a4 36 = .ok (.bipush 8, 2) := by decide +kernel
theorem dJ6_bitCount_0f7a4_38 : decode cJ6_bitCount_0f7a4 38 = .ok (.iushr, 1) := by decide +kernel
theorem dJ6_bitCount_0f7a4_39 : decode cJ6_bitCount_0f7a4 39 = .ok (.iadd, 1) := by decide +kernel
theorem dJ6_bitCount_0f7a4_40 : decode cJ6_bitCount_0f7a4 40 = .ok (.istore_n 0, 1) := by decide +kernel
theorem dJ6_bitCount_0f7a4_41 : decode cJ6_bitCount_0f7a4 41 = .ok (.iload_n 0, 1) := by decide +kernel
theorem dJ6_bitCount_0f7a4_42 : decode cJ6_bitCount_0f7a4 42 = .ok (.iload_n 0, 1) := by decide +kernel
theorem dJ6_bitCount_0f7a4_43 : decode cJ6_bitCount_0f7a4 43 = .ok (.bipush 16, 2) := by decide +kernel
theorem dJ6_bitCount_0f7a4_45 : decode cJ6_bitCount_0f7a4 45 = .ok (.iushr, 1) := by decide +kernel
theorem dJ6_bitCount_0f7a4_46 : decode cJ6_bitCount_0f7a4 46 = .ok (.iadd, 1) := by decide +kernel
theorem dJ6_bitCount_0f7a4_47 : decode cJ6_bitCount_0f7a4 47 = .ok (.istore_n 0, 1) := by decide +kernel
theorem dJ6_bitCount_0f7a4_48 : decode cJ6_bitCount_0f7a4 48 = .ok (.iload_n 0, 1) := by decide +kernel
theorem dJ6_bitCount_0f7a4_49 : decode cJ6_bitCount_0f7a4 49 = .ok (.bipush 63, 2) := by decide +kernel
theorem dJ6_bitCount_0f7a4_51 : decode cJ6_bitCount_0f7a4 51 = .ok (.iand, 1) := by decide +kernel
theorem dJ6_bitCount_0f7a4_52 : decode cJ6_bitCount_0f7a4 52 = .ok (.ireturn, 1) := by decide +kernel
theorem dJ9_max_7cf53_0 : decode cJ9_max_7cf53 0 = .ok (.iload_n 0, 1) := by decide +kernel
theorem dJ9_max_7cf53_1 : decode cJ9_max_7cf53 1 = .ok (.iload_n 1, 1) := by decide +kernel
theorem dJ9_max_7cf53_2 : decode cJ9_max_7cf53 2 = .ok (.if_icmp .lt 7, 3) := by decide +kernel
theorem dJ9_max_7cf53_5 : decode cJ9_max_7cf53 5 = .ok (.iload_n 0, 1) := by decide +kernel
theorem dJ9_max_7cf53_6 : decode cJ9_max_7cf53 6 = .ok (.goto 4, 3) := by decide +kernel
theorem dJ9_max_7cf53_9 : decode cJ9_max_7cf53 9 = .ok (.iload_n 1, 1) := by decide +kernel
theorem dJ9_max_7cf53_10 : decode cJ9_max_7cf53 10 = .ok (.ireturn, 1) := by decide +kernel
theorem dJ9_min_7cf53_0 : decode cJ9_min_7cf53 0 = .ok (.iload_n 0, 1) := by decide +kernel
theorem dJ9_min_7cf53_1 : decode cJ9_min_7cf53 1 = .ok (.iload_n 1, 1) := by decide +kernel
theorem dJ9_min_7cf53_2 : decode cJ9_min_7cf53 2 = .ok (.if_icmp .gt 7, 3) := by decide +kernel
theorem dJ9_min_7cf53_5 : decode cJ9_min_7cf53 5 = .ok (.iload_n 0, 1) := by decide +kernel
theorem dJ9_min_7cf53_6 : decode cJ9_min_7cf53 6 = .ok (.goto 4, 3) := by decide +kernel
theorem dJ9_min_7cf53_9 : decode cJ9_min_7cf53 9 = .ok (.iload_n 1, 1) := by decide +kernel
theorem dJ9_min_7cf53_10 : decode cJ9_min_7cf53 10 = .ok (.ireturn, 1) := by decide +kernel
theorem dJ9_min_f86c9_0 : decode cJ9_min_f86c9 0 = .ok (.lload_n 0, 1) := by decide +kernel
theorem dJ9_min_f86c9_1 : decode cJ9_min_f86c9 1 = .ok (.lload_n 2, 1) := by decide +kernel
theorem dJ9_min_f86c9_2 : decode cJ9_min_f86c9 2 = .ok (.lcmp, 1) := by decide +kernel
theorem dJ9_min_f86c9_3 : decode cJ9_min_f86c9 3 = .ok (.ifCond .gt 7, 3) := by decide +kernel
theorem dJ9_min_f86c9_6 : decode cJ9_min_f86c9 6 = .ok (.lload_n 0, 1) := by decide +kernel
theorem dJ9_min_f86c9_7 : decode cJ9_min_f86c9 7 = .ok (.goto 4, 3) := by decide +kernel
theorem dJ9_min_f86c9_10 : decode cJ9_min_f86c9 10 = .ok (.lload_n 2, 1) := by decide +kernel
theorem dJ9_min_f86c9_11 : decode cJ9_min_f86c9 11 = .ok (.lreturn, 1) := by decide +kernel
theorem dL_law_0 : decode cL_law 0 = .ok (.new 7, 3) := by decide +kernel
theorem dL_law_3 : decode cL_law 3 = .ok (.dup, 1) := by decide +kernel
theorem dL_law_4 : decode cL_law 4 = .ok (.invokespecial 9, 3) := by decide +kernel
theorem dL_law_7 : decode cL_law 7 = .ok (.astore_n 1, 1) := by decide +kernel
theorem dL_law_8 : decode cL_law 8 = .ok (.new 10, 3) := by decide +kernel
theorem dL_law_11 : decode cL_law 11 = .ok (.dup, 1) := by decide +kernel
theorem dL_law_12 : decode cL_law 12 = .ok (.invokespecial 12, 3) := by decide +kernel
theorem dL_law_15 : decode cL_law 15 = .ok (.astore_n 2, 1) := by decide +kernel
theorem dL_law_16 : decode cL_law 16 = .ok (.iconst 0, 1) := by decide +kernel
theorem dL_law_17 : decode cL_law 17 = .ok (.istore_n 3, 1) := by decide +kernel
theorem dL_law_18 : decode cL_law 18 = .ok (.iload_n 3, 1) := by decide +kernel
theorem dL_law_19 : decode cL_law 19 = .ok (.aload_n 0, 1) := by decide +kernel
theorem dL_law_20 : decode cL_law 20 = .ok (.arraylength, 1) := by decide +kernel
theorem dL_law_21 : decode cL_law 21 = .ok (.iconst 4, 1) := by decide +kernel
theorem dL_law_22 : decode cL_law 22 = .ok (.isub, 1) := by decide +kernel
theorem dL_law_23 : decode cL_law 23 = .ok (.if_icmp .gt 707, 3) := by decide +kernel
theorem dL_law_26 : decode cL_law 26 = .ok (.aload_n 0, 1) := by decide +kernel
theorem dL_law_27 : decode cL_law 27 = .ok (.iload_n 3, 1) := by decide +kernel
theorem dL_law_28 : decode cL_law 28 = .ok (.iaload, 1) := by decide +kernel
theorem dL_law_29 : decode cL_law 29 = .ok (.bipush 31, 2) := by decide +kernel
theorem dL_law_31 : decode cL_law 31 = .ok (.iand, 1) := by decide +kernel
theorem dL_law_32 : decode cL_law 32 = .ok (.tableswitch 692 0 21 #[104, 127, 140, 183, 206, 249, 282, 305, 348, 361, 384, 417, 430, 443, 476, 509, 522, 545, 569, 632, 646, 669], 104) := by decide +kernel
theorem dL_law_136 : decode cL_law 136 = .ok (.aload_n 1, 1) := by decide +kernel
theorem dL_law_137 : decode cL_law 137 = .ok (.aload_n 0, 1) := by decide +kernel
theorem dL_law_138 : decode cL_law 138 = .ok (.iload_n 3, 1) := by decide +kernel
theorem dL_law_139 : decode cL_law 139 = .ok (.iconst 1, 1) := by decide +kernel
theorem dL_law_140 : decode cL_law 140 = .ok (.iadd, 1) := by decide +kernel
theorem dL_law_141 : decode cL_law 141 = .ok (.iaload, 1) := by decide +kernel
theorem dL_law_142 : decode cL_law 142 = .ok (.invokevirtual 13, 3) := by decide +kernel
theorem dL_law_145 : decode cL_law 145 = .ok (.aload_n 2, 1) := by decide +kernel
theorem dL_law_146 : decode cL_law 146 = .ok (.aload_n 0, 1) := by decide +kernel
theorem dL_law_147 : decode cL_law 147 = .ok (.iload_n 3, 1) := by decide +kernel
theorem dL_law_148 : decode cL_law 148 = .ok (.iconst 1, 1) := by decide +kernel
theorem dL_law_149 : decode cL_law 149 = .ok (.iadd, 1) := by decide +kernel
theorem dL_law_150 : decode cL_law 150 = .ok (.iaload, 1) := by decide +kernel
theorem dL_law_151 : decode cL_law 151 = .ok (.invokevirtual 17, 3) := by decide +kernel
theorem dL_law_154 : decode cL_law 154 = .ok (.if_icmp .eq 570, 3) := by decide +kernel
theorem dL_law_157 : decode cL_law 157 = .ok (.iconst 0, 1) := by decide +kernel
theorem dL_law_158 : decode cL_law 158 = .ok (.ireturn, 1) := by decide +kernel
theorem dL_law_159 : decode cL_law 159 = .ok (.aload_n 1, 1) := by decide +kernel
theorem dL_law_160 : decode cL_law 160 = .ok (.invokevirtual 18, 3) := by decide +kernel
theorem dL_law_163 : decode cL_law 163 = .ok (.aload_n 2, 1) := by decide +kernel
theorem dL_law_164 : decode cL_law 164 = .ok (.invokevirtual 22, 3) := by decide +kernel
theorem dL_law_167 : decode cL_law 167 = .ok (.if_icmp .eq 557, 3) := by decide +kernel
theorem dL_law_170 : decode cL_law 170 = .ok (.iconst 0, 1) := by decide +kernel
theorem dL_law_171 : decode cL_law 171 = .ok (.ireturn, 1) := by decide +kernel
theorem dL_law_172 : decode cL_law 172 = .ok (.aload_n 1, 1) := by decide +kernel
theorem dL_law_173 : decode cL_law 173 = .ok (.aload_n 0, 1) := by decide +kernel
theorem dL_law_174 : decode cL_law 174 = .ok (.iload_n 3, 1) := by decide +kernel
theorem dL_law_175 : decode cL_law 175 = .ok (.iconst 1, 1) := by decide +kernel
theorem dL_law_176 : decode cL_law 176 = .ok (.iadd, 1) := by decide +kernel
theorem dL_law_177 : decode cL_law 177 = .ok (.iaload, 1) := by decide +kernel
theorem dL_law_178 : decode cL_law 178 = .ok (.aload_n 0, 1) := by decide +kernel
theorem dL_law_179 : decode cL_law 179 = .ok (.iload_n 3, 1) := by decide +kernel
theorem dL_law_180 : decode cL_law 180 = .ok (.iconst 2, 1) := by decide +kernel
theorem dL_law_181 : decode cL_law 181 = .ok (.iadd, 1) := by decide +kernel
theorem dL_law_182 : decode cL_law 182 = .ok (.iaload, 1) := by decide +kernel
theorem dL_law_183 : decode cL_law 183 = .ok (.aload_n 0, 1) := by decide +kernel
theorem dL_law_184 : decode cL_law 184 = .ok (.iload_n 3, 1) := by decide +kernel
theorem dL_law_185 : decode cL_law 185 = .ok (.iconst 3, 1) := by decide +kernel
theorem dL_law_186 : decode cL_law 186 = .ok (.iadd, 1) := by decide +kernel
theorem dL_law_187 : decode cL_law 187 = .ok (.iaload, 1) := by decide +kernel
theorem dL_law_188 : decode cL_law 188 = .ok (.invokevirtual 23, 3) := by decide +kernel
theorem dL_law_191 : decode cL_law 191 = .ok (.aload_n 2, 1) := by decide +kernel
theorem dL_law_192 : decode cL_law 192 = .ok (.aload_n 0, 1) := by decide +kernel
theorem dL_law_193 : decode cL_law 193 = .ok (.iload_n 3, 1) := by decide +kernel
theorem dL_law_194 : decode cL_law 194 = .ok (.iconst 1, 1) := by decide +kernel
theorem dL_law_195 : decode cL_law 195 = .ok (.iadd, 1) := by decide +kernel
theorem dL_law_196 : decode cL_law 196 = .ok (.iaload, 1) := by decide +kernel
theorem dL_law_197 : decode cL_law 197 = .ok (.aload_n 0, 1) := by decide +kernel
theorem dL_law_198 : decode cL_law 198 = .ok (.iload_n 3, 1) := by decide +kernel
theorem dL_law_199 : decode cL_law 199 = .ok (.iconst 2, 1) := by decide +kernel
theorem dL_law_200 : decode cL_law 200 = .ok (.iadd, 1) := by decide +kernel
theorem dL_law_201 : decode cL_law 201 = .ok (.iaload, 1) := by decide +kernel
theorem dL_law_202 : decode cL_law 202 = .ok (.aload_n 0, 1) := by decide +kernel
theorem dL_law_203 : decode cL_law 203 = .ok (.iload_n 3, 1) := by decide +kernel
theorem dL_law_204 : decode cL_law 204 = .ok (.iconst 3, 1) := by decide +kernel
theorem dL_law_205 : decode cL_law 205 = .ok (.iadd, 1) := by decide +kernel
theorem dL_law_206 : decode cL_law 206 = .ok (.iaload, 1) := by decide +kernel
theorem dL_law_207 : decode cL_law 207 = .ok (.invokevirtual 27, 3) := by decide +kernel
theorem dL_law_210 : decode cL_law 210 = .ok (.if_icmp .eq 514, 3) := by decide +kernel
theorem dL_law_213 : decode cL_law 213 = .ok (.iconst 0, 1) := by decide +kernel
theorem dL_law_214 : decode cL_law 214 = .ok (.ireturn, 1) := by decide +kernel
theorem dL_law_215 : decode cL_law 215 = .ok (.aload_n 1, 1) := by decide +kernel
theorem dL_law_216 : decode cL_law 216 = .ok (.aload_n 0, 1) := by decide +kernel
theorem dL_law_217 : decode cL_law 217 = .ok (.iload_n 3, 1) := by decide +kernel
theorem dL_law_218 : decode cL_law 218 = .ok (.iconst 1, 1) := by decide +kernel
theorem dL_law_219 : decode cL_law 219 = .ok (.iadd, 1) := by decide +kernel
theorem dL_law_220 : decode cL_law 220 = .ok (.iaload, 1) := by decide +kernel
theorem dL_law_221 : decode cL_law 221 = .ok (.invokevirtual 28, 3) := by decide +kernel
theorem dL_law_224 : decode cL_law 224 = .ok (.aload_n 2, 1) := by decide +kernel
theorem dL_law_225 : decode cL_law 225 = .ok (.aload_n 0, 1) := by decide +kernel
theorem dL_law_226 : decode cL_law 226 = .ok (.iload_n 3, 1) := by decide +kernel
theorem dL_law_227 : decode cL_law 227 = .ok (.iconst 1, 1) := by decide +kernel
theorem dL_law_228 : decode cL_law 228 = .ok (.iadd, 1) := by decide +kernel
theorem dL_law_229 : decode cL_law 229 = .ok (.iaload, 1) := by decide +kernel
theorem dL_law_230 : decode cL_law 230 = .ok (.invokevirtual 31, 3) := by decide +kernel
theorem dL_law_233 : decode cL_law 233 = .ok (.if_icmp .eq 491, 3) := by decide +kernel
theorem dL_law_236 : decode cL_law 236 = .ok (.iconst 0, 1) := by decide +kernel
theorem dL_law_237 : decode cL_law 237 = .ok (.ireturn, 1) := by decide +kernel
theorem dL_law_238 : decode cL_law 238 = .ok (.aload_n 1, 1) := by decide +kernel
theorem dL_law_239 : decode cL_law 239 = .ok (.aload_n 0, 1) := by decide +kernel
theorem dL_law_240 : decode cL_law 240 = .ok (.iload_n 3, 1) := by decide +kernel
theorem dL_law_241 : decode cL_law 241 = .ok (.iconst 1, 1) := by decide +kernel
theorem dL_law_242 : decode cL_law 242 = .ok (.iadd, 1) := by decide +kernel
theorem dL_law_243 : decode cL_law 243 = .ok (.iaload, 1) := by decide +kernel
theorem dL_law_244 : decode cL_law 244 = .ok (.aload_n 0, 1) := by decide +kernel
theorem dL_law_245 : decode cL_law 245 = .ok (.iload_n 3, 1) := by decide +kernel
theorem dL_law_246 : decode cL_law 246 = .ok (.iconst 2, 1) := by decide +kernel
theorem dL_law_247 : decode cL_law 247 = .ok (.iadd, 1) := by decide +kernel
theorem dL_law_248 : decode cL_law 248 = .ok (.iaload, 1) := by decide +kernel
theorem dL_law_249 : decode cL_law 249 = .ok (.aload_n 0, 1) := by decide +kernel
theorem dL_law_250 : decode cL_law 250 = .ok (.iload_n 3, 1) := by decide +kernel
theorem dL_law_251 : decode cL_law 251 = .ok (.iconst 3, 1) := by decide +kernel
theorem dL_law_252 : decode cL_law 252 = .ok (.iadd, 1) := by decide +kernel
theorem dL_law_253 : decode cL_law 253 = .ok (.iaload, 1) := by decide +kernel
theorem dL_law_254 : decode cL_law 254 = .ok (.invokevirtual 32, 3) := by decide +kernel
theorem dL_law_257 : decode cL_law 257 = .ok (.aload_n 2, 1) := by decide +kernel
theorem dL_law_258 : decode cL_law 258 = .ok (.aload_n 0, 1) := by decide +kernel
theorem dL_law_259 : decode cL_law 259 = .ok (.iload_n 3, 1) := by decide +kernel
theorem dL_law_260 : decode cL_law 260 = .ok (.iconst 1, 1) := by decide +kernel
theorem dL_law_261 : decode cL_law 261 = .ok (.iadd, 1) := by decide +kernel
theorem dL_law_262 : decode cL_law 262 = .ok (.iaload, 1) := by decide +kernel
theorem dL_law_263 : decode cL_law 263 = .ok (.aload_n 0, 1) := by decide +kernel
theorem dL_law_264 : decode cL_law 264 = .ok (.iload_n 3, 1) := by decide +kernel
theorem dL_law_265 : decode cL_law 265 = .ok (.iconst 2, 1) := by decide +kernel
theorem dL_law_266 : decode cL_law 266 = .ok (.iadd, 1) := by decide +kernel
theorem dL_law_267 : decode cL_law 267 = .ok (.iaload, 1) := by decide +kernel
theorem dL_law_268 : decode cL_law 268 = .ok (.aload_n 0, 1) := by decide +kernel
theorem dL_law_269 : decode cL_law 269 = .ok (.iload_n 3, 1) := by decide +kernel
theorem dL_law_270 : decode cL_law 270 = .ok (.iconst 3, 1) := by decide +kernel
theorem dL_law_271 : decode cL_law 271 = .ok (.iadd, 1) := by decide +kernel
theorem dL_law_272 : decode cL_law 272 = .ok (.iaload, 1) := by decide +kernel
theorem dL_law_273 : decode cL_law 273 = .ok (.invokevirtual 35, 3) := by decide +kernel
theorem dL_law_276 : decode cL_law 276 = .ok (.if_icmp .eq 448, 3) := by decide +kernel
theorem dL_law_279 : decode cL_law 279 = .ok (.iconst 0, 1) := by decide +kernel
theorem dL_law_280 : decode cL_law 280 = .ok (.ireturn, 1) := by decide +kernel
theorem dL_law_281 : decode cL_law 281 = .ok (.aload_n 1, 1) := by decide +kernel
theorem dL_law_282 : decode cL_law 282 = .ok (.aload_n 0, 1) := by decide +kernel
theorem dL_law_283 : decode cL_law 283 = .ok (.iload_n 3, 1) := by decide +kernel
theorem dL_law_284 : decode cL_law 284 = .ok (.iconst 1, 1) := by decide +kernel
theorem dL_law_285 : decode cL_law 285 = .ok (.iadd, 1) := by decide +kernel
theorem dL_law_286 : decode cL_law 286 = .ok (.iaload, 1) := by decide +kernel
theorem dL_law_287 : decode cL_law 287 = .ok (.aload_n 0, 1) := by decide +kernel
theorem dL_law_288 : decode cL_law 288 = .ok (.iload_n 3, 1) := by decide +kernel
theorem dL_law_289 : decode cL_law 289 = .ok (.iconst 2, 1) := by decide +kernel
theorem dL_law_290 : decode cL_law 290 = .ok (.iadd, 1) := by decide +kernel
theorem dL_law_291 : decode cL_law 291 = .ok (.iaload, 1) := by decide +kernel
theorem dL_law_292 : decode cL_law 292 = .ok (.invokevirtual 36, 3) := by decide +kernel
theorem dL_law_295 : decode cL_law 295 = .ok (.aload_n 2, 1) := by decide +kernel
theorem dL_law_296 : decode cL_law 296 = .ok (.aload_n 0, 1) := by decide +kernel
theorem dL_law_297 : decode cL_law 297 = .ok (.iload_n 3, 1) := by decide +kernel
theorem dL_law_298 : decode cL_law 298 = .ok (.iconst 1, 1) := by decide +kernel
theorem dL_law_299 : decode cL_law 299 = .ok (.iadd, 1) := by decide +kernel
theorem dL_law_300 : decode cL_law 300 = .ok (.iaload, 1) := by decide +kernel
theorem dL_law_301 : decode cL_law 301 = .ok (.aload_n 0, 1) := by decide +kernel
theorem dL_law_302 : decode cL_law 302 = .ok (.iload_n 3, 1) := by decide +kernel
theorem dL_law_303 : decode cL_law 303 = .ok (.iconst 2, 1) := by decide +kernel
theorem dL_law_304 : decode cL_law 304 = .ok (.iadd, 1) := by decide +kernel
theorem dL_law_305 : decode cL_law 305 = .ok (.iaload, 1) := by decide +kernel
theorem dL_law_306 : decode cL_law 306 = .ok (.invokevirtual 40, 3) := by decide +kernel
theorem dL_law_309 : decode cL_law 309 = .ok (.if_icmp .eq 415, 3) := by decide +kernel
theorem dL_law_312 : decode cL_law 312 = .ok (.iconst 0, 1) := by decide +kernel
theorem dL_law_313 : decode cL_law 313 = .ok (.ireturn, 1) := by decide +kernel
theorem dL_law_314 : decode cL_law 314 = .ok (.aload_n 1, 1) := by decide +kernel
theorem dL_law_315 : decode cL_law 315 = .ok (.aload_n 0, 1) := by decide +kernel
theorem dL_law_316 : decode cL_law 316 = .ok (.iload_n 3, 1) := by decide +kernel
theorem dL_law_317 : decode cL_law 317 = .ok (.iconst 1, 1) := by decide +kernel
theorem dL_law_318 : decode cL_law 318 = .ok (.iadd, 1) := by decide +kernel
theorem dL_law_319 : decode cL_law 319 = .ok (.iaload, 1) := by decide +kernel
theorem dL_law_320 : decode cL_law 320 = .ok (.invokevirtual 41, 3) := by decide +kernel
theorem dL_law_323 : decode cL_law 323 = .ok (.aload_n 2, 1) := by decide +kernel
theorem dL_law_324 : decode cL_law 324 = .ok (.aload_n 0, 1) := by decide +kernel
theorem dL_law_325 : decode cL_law 325 = .ok (.iload_n 3, 1) := by decide +kernel
theorem dL_law_326 : decode cL_law 326 = .ok (.iconst 1, 1) := by decide +kernel
theorem dL_law_327 : decode cL_law 327 = .ok (.iadd, 1) := by decide +kernel
theorem dL_law_328 : decode cL_law 328 = .ok (.iaload, 1) := by decide +kernel
theorem dL_law_329 : decode cL_law 329 = .ok (.invokevirtual 44, 3) := by decide +kernel
theorem dL_law_332 : decode cL_law 332 = .ok (.if_icmp .eq 392, 3) := by decide +kernel
theorem dL_law_335 : decode cL_law 335 = .ok (.iconst 0, 1) := by decide +kernel
theorem dL_law_336 : decode cL_law 336 = .ok (.ireturn, 1) := by decide +kernel
theorem dL_law_337 : decode cL_law 337 = .ok (.aload_n 1, 1) := by decide +kernel
theorem dL_law_338 : decode cL_law 338 = .ok (.aload_n 0, 1) := by decide +kernel
theorem dL_law_339 : decode cL_law 339 = .ok (.iload_n 3, 1) := by decide +kernel
theorem dL_law_340 : decode cL_law 340 = .ok (.iconst 1, 1) := by decide +kernel
theorem dL_law_341 : decode cL_law 341 = .ok (.iadd, 1) := by decide +kernel
theorem dL_law_342 : decode cL_law 342 = .ok (.iaload, 1) := by decide +kernel
theorem dL_law_343 : decode cL_law 343 = .ok (.aload_n 0, 1) := by decide +kernel
theorem dL_law_344 : decode cL_law 344 = .ok (.iload_n 3, 1) := by decide +kernel
theorem dL_law_345 : decode cL_law 345 = .ok (.iconst 2, 1) := by decide +kernel
theorem dL_law_346 : decode cL_law 346 = .ok (.iadd, 1) := by decide +kernel
theorem dL_law_347 : decode cL_law 347 = .ok (.iaload, 1) := by decide +kernel
theorem dL_law_348 : decode cL_law 348 = .ok (.aload_n 0, 1) := by decide +kernel
theorem dL_law_349 : decode cL_law 349 = .ok (.iload_n 3, 1) := by decide +kernel
theorem dL_law_350 : decode cL_law 350 = .ok (.iconst 3, 1) := by decide +kernel
theorem dL_law_351 : decode cL_law 351 = .ok (.iadd, 1) := by decide +kernel
theorem dL_law_352 : decode cL_law 352 = .ok (.iaload, 1) := by decide +kernel
theorem dL_law_353 : decode cL_law 353 = .ok (.invokevirtual 45, 3) := by decide +kernel
theorem dL_law_356 : decode cL_law 356 = .ok (.aload_n 2, 1) := by decide +kernel
theorem dL_law_357 : decode cL_law 357 = .ok (.aload_n 0, 1) := by decide +kernel
theorem dL_law_358 : decode cL_law 358 = .ok (.iload_n 3, 1) := by decide +kernel
theorem dL_law_359 : decode cL_law 359 = .ok (.iconst 1, 1) := by decide +kernel
theorem dL_law_360 : decode cL_law 360 = .ok (.iadd, 1) := by decide +kernel
theorem dL_law_361 : decode cL_law 361 = .ok (.iaload, 1) := by decide +kernel
theorem dL_law_362 : decode cL_law 362 = .ok (.aload_n 0, 1) := by decide +kernel
theorem dL_law_363 : decode cL_law 363 = .ok (.iload_n 3, 1) := by decide +kernel
theorem dL_law_364 : decode cL_law 364 = .ok (.iconst 2, 1) := by decide +kernel
theorem dL_law_365 : decode cL_law 365 = .ok (.iadd, 1) := by decide +kernel
theorem dL_law_366 : decode cL_law 366 = .ok (.iaload, 1) := by decide +kernel
theorem dL_law_367 : decode cL_law 367 = .ok (.aload_n 0, 1) := by decide +kernel
theorem dL_law_368 : decode cL_law 368 = .ok (.iload_n 3, 1) := by decide +kernel
theorem dL_law_369 : decode cL_law 369 = .ok (.iconst 3, 1) := by decide +kernel
theorem dL_law_370 : decode cL_law 370 = .ok (.iadd, 1) := by decide +kernel
theorem dL_law_371 : decode cL_law 371 = .ok (.iaload, 1) := by decide +kernel
theorem dL_law_372 : decode cL_law 372 = .ok (.invokevirtual 48, 3) := by decide +kernel
theorem dL_law_375 : decode cL_law 375 = .ok (.if_icmp .eq 349, 3) := by decide +kernel
theorem dL_law_378 : decode cL_law 378 = .ok (.iconst 0, 1) := by decide +kernel
theorem dL_law_379 : decode cL_law 379 = .ok (.ireturn, 1) := by decide +kernel
theorem dL_law_380 : decode cL_law 380 = .ok (.aload_n 1, 1) := by decide +kernel
theorem dL_law_381 : decode cL_law 381 = .ok (.invokevirtual 49, 3) := by decide +kernel
theorem dL_law_384 : decode cL_law 384 = .ok (.aload_n 2, 1) := by decide +kernel
theorem dL_law_385 : decode cL_law 385 = .ok (.invokevirtual 52, 3) := by decide +kernel
theorem dL_law_388 : decode cL_law 388 = .ok (.if_icmp .eq 336, 3) := by decide +kernel
theorem dL_law_391 : decode cL_law 391 = .ok (.iconst 0, 1) := by decide +kernel
theorem dL_law_392 : decode cL_law 392 = .ok (.ireturn, 1) := by decide +kernel
theorem dL_law_393 : decode cL_law 393 = .ok (.aload_n 1, 1) := by decide +kernel
theorem dL_law_394 : decode cL_law 394 = .ok (.aload_n 0, 1) := by decide +kernel
theorem dL_law_395 : decode cL_law 395 = .ok (.iload_n 3, 1) := by decide +kernel
theorem dL_law_396 : decode cL_law 396 = .ok (.iconst 1, 1) := by decide +kernel
theorem dL_law_397 : decode cL_law 397 = .ok (.iadd, 1) := by decide +kernel
theorem dL_law_398 : decode cL_law 398 = .ok (.iaload, 1) := by decide +kernel
theorem dL_law_399 : decode cL_law 399 = .ok (.invokevirtual 53, 3) := by decide +kernel
theorem dL_law_402 : decode cL_law 402 = .ok (.aload_n 2, 1) := by decide +kernel
theorem dL_law_403 : decode cL_law 403 = .ok (.aload_n 0, 1) := by decide +kernel
theorem dL_law_404 : decode cL_law 404 = .ok (.iload_n 3, 1) := by decide +kernel
theorem dL_law_405 : decode cL_law 405 = .ok (.iconst 1, 1) := by decide +kernel
theorem dL_law_406 : decode cL_law 406 = .ok (.iadd, 1) := by decide +kernel
theorem dL_law_407 : decode cL_law 407 = .ok (.iaload, 1) := by decide +kernel
theorem dL_law_408 : decode cL_law 408 = .ok (.invokevirtual 56, 3) := by decide +kernel
theorem dL_law_411 : decode cL_law 411 = .ok (.if_icmp .eq 313, 3) := by decide +kernel
theorem dL_law_414 : decode cL_law 414 = .ok (.iconst 0, 1) := by decide +kernel
theorem dL_law_415 : decode cL_law 415 = .ok (.ireturn, 1) := by decide +kernel
theorem dL_law_416 : decode cL_law 416 = .ok (.aload_n 1, 1) := by decide +kernel
theorem dL_law_417 : decode cL_law 417 = .ok (.aload_n 0, 1) := by decide +kernel
theorem dL_law_418 : decode cL_law 418 = .ok (.iload_n 3, 1) := by decide +kernel
theorem dL_law_419 : decode cL_law 419 = .ok (.iconst 1, 1) := by decide +kernel
theorem dL_law_420 : decode cL_law 420 = .ok (.iadd, 1) := by decide +kernel
theorem dL_law_421 : decode cL_law 421 = .ok (.iaload, 1) := by decide +kernel
theorem dL_law_422 : decode cL_law 422 = .ok (.aload_n 0, 1) := by decide +kernel
theorem dL_law_423 : decode cL_law 423 = .ok (.iload_n 3, 1) := by decide +kernel
theorem dL_law_424 : decode cL_law 424 = .ok (.iconst 2, 1) := by decide +kernel
theorem dL_law_425 : decode cL_law 425 = .ok (.iadd, 1) := by decide +kernel
theorem dL_law_426 : decode cL_law 426 = .ok (.iaload, 1) := by decide +kernel
theorem dL_law_427 : decode cL_law 427 = .ok (.invokevirtual 57, 3) := by decide +kernel
theorem dL_law_430 : decode cL_law 430 = .ok (.aload_n 2, 1) := by decide +kernel
theorem dL_law_431 : decode cL_law 431 = .ok (.aload_n 0, 1) := by decide +kernel
theorem dL_law_432 : decode cL_law 432 = .ok (.iload_n 3, 1) := by decide +kernel
theorem dL_law_433 : decode cL_law 433 = .ok (.iconst 1, 1) := by decide +kernel
theorem dL_law_434 : decode cL_law 434 = .ok (.iadd, 1) := by decide +kernel
theorem dL_law_435 : decode cL_law 435 = .ok (.iaload, 1) := by decide +kernel
theorem dL_law_436 : decode cL_law 436 = .ok (.aload_n 0, 1) := by decide +kernel
theorem dL_law_437 : decode cL_law 437 = .ok (.iload_n 3, 1) := by decide +kernel
theorem dL_law_438 : decode cL_law 438 = .ok (.iconst 2, 1) := by decide +kernel
theorem dL_law_439 : decode cL_law 439 = .ok (.iadd, 1) := by decide +kernel
theorem dL_law_440 : decode cL_law 440 = .ok (.iaload, 1) := by decide +kernel
theorem dL_law_441 : decode cL_law 441 = .ok (.invokevirtual 60, 3) := by decide +kernel
theorem dL_law_444 : decode cL_law 444 = .ok (.if_icmp .eq 280, 3) := by decide +kernel
theorem dL_law_447 : decode cL_law 447 = .ok (.iconst 0, 1) := by decide +kernel
theorem dL_law_448 : decode cL_law 448 = .ok (.ireturn, 1) := by decide +kernel
theorem dL_law_449 : decode cL_law 449 = .ok (.aload_n 1, 1) := by decide +kernel
theorem dL_law_450 : decode cL_law 450 = .ok (.invokevirtual 61, 3) := by decide +kernel
theorem dL_law_453 : decode cL_law 453 = .ok (.aload_n 2, 1) := by decide +kernel
theorem dL_law_454 : decode cL_law 454 = .ok (.invokevirtual 64, 3) := by decide +kernel
theorem dL_law_457 : decode cL_law 457 = .ok (.if_icmp .eq 267, 3) := by decide +kernel
theorem dL_law_460 : decode cL_law 460 = .ok (.iconst 0, 1) := by decide +kernel
theorem dL_law_461 : decode cL_law 461 = .ok (.ireturn, 1) := by decide +kernel
theorem dL_law_462 : decode cL_law 462 = .ok (.aload_n 1, 1) := by decide +kernel
theorem dL_law_463 : decode cL_law 463 = .ok (.invokevirtual 65, 3) := by decide +kernel
theorem dL_law_466 : decode cL_law 466 = .ok (.aload_n 2, 1) := by decide +kernel
theorem dL_law_467 : decode cL_law 467 = .ok (.invokevirtual 68, 3) := by decide +kernel
theorem dL_law_470 : decode cL_law 470 = .ok (.if_icmp .eq 254, 3) := by decide +kernel
theorem dL_law_473 : decode cL_law 473 = .ok (.iconst 0, 1) := by decide +kernel
theorem dL_law_474 : decode cL_law 474 = .ok (.ireturn, 1) := by decide +kernel
theorem dL_law_475 : decode cL_law 475 = .ok (.aload_n 1, 1) := by decide +kernel
theorem dL_law_476 : decode cL_law 476 = .ok (.aload_n 0, 1) := by decide +kernel
theorem dL_law_477 : decode cL_law 477 = .ok (.iload_n 3, 1) := by decide +kernel
theorem dL_law_478 : decode cL_law 478 = .ok (.iconst 1, 1) := by decide +kernel
theorem dL_law_479 : decode cL_law 479 = .ok (.iadd, 1) := by decide +kernel
theorem dL_law_480 : decode cL_law 480 = .ok (.iaload, 1) := by decide +kernel
theorem dL_law_481 : decode cL_law 481 = .ok (.aload_n 0, 1) := by decide +kernel
theorem dL_law_482 : decode cL_law 482 = .ok (.iload_n 3, 1) := by decide +kernel
theorem dL_law_483 : decode cL_law 483 = .ok (.iconst 2, 1) := by decide +kernel
theorem dL_law_484 : decode cL_law 484 = .ok (.iadd, 1) := by decide +kernel
theorem dL_law_485 : decode cL_law 485 = .ok (.iaload, 1) := by decide +kernel
theorem dL_law_486 : decode cL_law 486 = .ok (.invokevirtual 69, 3) := by decide +kernel
theorem dL_law_489 : decode cL_law 489 = .ok (.aload_n 2, 1) := by decide +kernel
theorem dL_law_490 : decode cL_law 490 = .ok (.aload_n 0, 1) := by decide +kernel
theorem dL_law_491 : decode cL_law 491 = .ok (.iload_n 3, 1) := by decide +kernel
theorem dL_law_492 : decode cL_law 492 = .ok (.iconst 1, 1) := by decide +kernel
theorem dL_law_493 : decode cL_law 493 = .ok (.iadd, 1) := by decide +kernel
theorem dL_law_494 : decode cL_law 494 = .ok (.iaload, 1) := by decide +kernel
theorem dL_law_495 : decode cL_law 495 = .ok (.aload_n 0, 1) := by decide +kernel
theorem dL_law_496 : decode cL_law 496 = .ok (.iload_n 3, 1) := by decide +kernel
theorem dL_law_497 : decode cL_law 497 = .ok (.iconst 2, 1) := by decide +kernel
theorem dL_law_498 : decode cL_law 498 = .ok (.iadd, 1) := by decide +kernel
theorem dL_law_499 : decode cL_law 499 = .ok (.iaload, 1) := by decide +kernel
theorem dL_law_500 : decode cL_law 500 = .ok (.invokevirtual 72, 3) := by decide +kernel
theorem dL_law_503 : decode cL_law 503 = .ok (.if_icmp .eq 221, 3) := by decide +kernel
theorem dL_law_506 : decode cL_law 506 = .ok (.iconst 0, 1) := by decide +kernel
theorem dL_law_507 : decode cL_law 507 = .ok (.ireturn, 1) := by decide +kernel
theorem dL_law_508 : decode cL_law 508 = .ok (.aload_n 1, 1) := by decide +kernel
theorem dL_law_509 : decode cL_law 509 = .ok (.aload_n 0, 1) := by decide +kernel
theorem dL_law_510 : decode cL_law 510 = .ok (.iload_n 3, 1) := by decide +kernel
theorem dL_law_511 : decode cL_law 511 = .ok (.iconst 1, 1) := by decide +kernel
theorem dL_law_512 : decode cL_law 512 = .ok (.iadd, 1) := by decide +kernel
theorem dL_law_513 : decode cL_law 513 = .ok (.iaload, 1) := by decide +kernel
theorem dL_law_514 : decode cL_law 514 = .ok (.aload_n 0, 1) := by decide +kernel
theorem dL_law_515 : decode cL_law 515 = .ok (.iload_n 3, 1) := by decide +kernel
theorem dL_law_516 : decode cL_law 516 = .ok (.iconst 2, 1) := by decide +kernel
theorem dL_law_517 : decode cL_law 517 = .ok (.iadd, 1) := by decide +kernel
theorem dL_law_518 : decode cL_law 518 = .ok (.iaload, 1) := by decide +kernel
theorem dL_law_519 : decode cL_law 519 = .ok (.invokevirtual 73, 3) := by decide +kernel
theorem dL_law_522 : decode cL_law 522 = .ok (.aload_n 2, 1) := by decide +kernel
theorem dL_law_523 : decode cL_law 523 = .ok (.aload_n 0, 1) := by decide +kernel
theorem dL_law_524 : decode cL_law 524 = .ok (.iload_n 3, 1) := by decide +kernel
theorem dL_law_525 : decode cL_law 525 = .ok (.iconst 1, 1) := by decide +kernel
theorem dL_law_526 : decode cL_law 526 = .ok (.iadd, 1) := by decide +kernel
theorem dL_law_527 : decode cL_law 527 = .ok (.iaload, 1) := by decide +kernel
theorem dL_law_528 : decode cL_law 528 = .ok (.aload_n 0, 1) := by decide +kernel
theorem dL_law_529 : decode cL_law 529 = .ok (.iload_n 3, 1) := by decide +kernel
theorem dL_law_530 : decode cL_law 530 = .ok (.iconst 2, 1) := by decide +kernel
theorem dL_law_531 : decode cL_law 531 = .ok (.iadd, 1) := by decide +kernel
theorem dL_law_532 : decode cL_law 532 = .ok (.iaload, 1) := by decide +kernel
theorem dL_law_533 : decode cL_law 533 = .ok (.invokevirtual 76, 3) := by decide +kernel
theorem dL_law_536 : decode cL_law 536 = .ok (.if_icmp .eq 188, 3) := by decide +kernel
theorem dL_law_539 : decode cL_law 539 = .ok (.iconst 0, 1) := by decide +kernel
theorem dL_law_540 : decode cL_law 540 = .ok (.ireturn, 1) := by decide +kernel
theorem dL_law_541 : decode cL_law 541 = .ok (.aload_n 1, 1) := by decide +kernel
theorem dL_law_542 : decode cL_law 542 = .ok (.invokevirtual 77, 3) := by decide +kernel
theorem dL_law_545 : decode cL_law 545 = .ok (.aload_n 2, 1) := by decide +kernel
theorem dL_law_546 : decode cL_law 546 = .ok (.invokevirtual 80, 3) := by decide +kernel
theorem dL_law_549 : decode cL_law 549 = .ok (.if_icmp .eq 175, 3) := by decide +kernel
theorem dL_law_552 : decode cL_law 552 = .ok (.iconst 0, 1) := by decide +kernel
theorem dL_law_553 : decode cL_law 553 = .ok (.ireturn, 1) := by decide +kernel
theorem dL_law_554 : decode cL_law 554 = .ok (.aload_n 1, 1) := by decide +kernel
theorem dL_law_555 : decode cL_law 555 = .ok (.aload_n 0, 1) := by decide +kernel
theorem dL_law_556 : decode cL_law 556 = .ok (.iload_n 3, 1) := by decide +kernel
theorem dL_law_557 : decode cL_law 557 = .ok (.iconst 1, 1) := by decide +kernel
theorem dL_law_558 : decode cL_law 558 = .ok (.iadd, 1) := by decide +kernel
theorem dL_law_559 : decode cL_law 559 = .ok (.iaload, 1) := by decide +kernel
theorem dL_law_560 : decode cL_law 560 = .ok (.invokevirtual 81, 3) := by decide +kernel
theorem dL_law_563 : decode cL_law 563 = .ok (.aload_n 2, 1) := by decide +kernel
theorem dL_law_564 : decode cL_law 564 = .ok (.aload_n 0, 1) := by decide +kernel
theorem dL_law_565 : decode cL_law 565 = .ok (.iload_n 3, 1) := by decide +kernel
theorem dL_law_566 : decode cL_law 566 = .ok (.iconst 1, 1) := by decide +kernel
theorem dL_law_567 : decode cL_law 567 = .ok (.iadd, 1) := by decide +kernel
theorem dL_law_568 : decode cL_law 568 = .ok (.iaload, 1) := by decide +kernel
theorem dL_law_569 : decode cL_law 569 = .ok (.invokevirtual 84, 3) := by decide +kernel
theorem dL_law_572 : decode cL_law 572 = .ok (.if_icmp .eq 152, 3) := by decide +kernel
theorem dL_law_575 : decode cL_law 575 = .ok (.iconst 0, 1) := by decide +kernel
theorem dL_law_576 : decode cL_law 576 = .ok (.ireturn, 1) := by decide +kernel
theorem dL_law_577 : decode cL_law 577 = .ok (.aload_n 1, 1) := by decide +kernel
theorem dL_law_578 : decode cL_law 578 = .ok (.aload_n 0, 1) := by decide +kernel
theorem dL_law_579 : decode cL_law 579 = .ok (.iload_n 3, 1) := by decide +kernel
theorem dL_law_580 : decode cL_law 580 = .ok (.iconst 1, 1) := by decide +kernel
theorem dL_law_581 : decode cL_law 581 = .ok (.iadd, 1) := by decide +kernel
theorem dL_law_582 : decode cL_law 582 = .ok (.iaload, 1) := by decide +kernel
theorem dL_law_583 : decode cL_law 583 = .ok (.invokevirtual 85, 3) := by decide +kernel
theorem dL_law_586 : decode cL_law 586 = .ok (.aload_n 2, 1) := by decide +kernel
theorem dL_law_587 : decode cL_law 587 = .ok (.aload_n 0, 1) := by decide +kernel
theorem dL_law_588 : decode cL_law 588 = .ok (.iload_n 3, 1) := by decide +kernel
theorem dL_law_589 : decode cL_law 589 = .ok (.iconst 1, 1) := by decide +kernel
theorem dL_law_590 : decode cL_law 590 = .ok (.iadd, 1) := by decide +kernel
theorem dL_law_591 : decode cL_law 591 = .ok (.iaload, 1) := by decide +kernel
theorem dL_law_592 : decode cL_law 592 = .ok (.invokevirtual 89, 3) := by decide +kernel
theorem dL_law_595 : decode cL_law 595 = .ok (.lcmp, 1) := by decide +kernel
theorem dL_law_596 : decode cL_law 596 = .ok (.ifCond .eq 128, 3) := by decide +kernel
theorem dL_law_599 : decode cL_law 599 = .ok (.iconst 0, 1) := by decide +kernel
theorem dL_law_600 : decode cL_law 600 = .ok (.ireturn, 1) := by decide +kernel
theorem dL_law_601 : decode cL_law 601 = .ok (.aload_n 1, 1) := by decide +kernel
theorem dL_law_602 : decode cL_law 602 = .ok (.aload_n 0, 1) := by decide +kernel
theorem dL_law_603 : decode cL_law 603 = .ok (.iload_n 3, 1) := by decide +kernel
theorem dL_law_604 : decode cL_law 604 = .ok (.iconst 1, 1) := by decide +kernel
theorem dL_law_605 : decode cL_law 605 = .ok (.iadd, 1) := by decide +kernel
theorem dL_law_606 : decode cL_law 606 = .ok (.iaload, 1) := by decide +kernel
theorem dL_law_607 : decode cL_law 607 = .ok (.i2l, 1) := by decide +kernel
theorem dL_law_608 : decode cL_law 608 = .ok (.bipush 32, 2) := by decide +kernel
theorem dL_law_610 : decode cL_law 610 = .ok (.lshl, 1) := by decide +kernel
theorem dL_law_611 : decode cL_law 611 = .ok (.aload_n 0, 1) := by decide +kernel
theorem dL_law_612 : decode cL_law 612 = .ok (.iload_n 3, 1) := by decide +kernel
theorem dL_law_613 : decode cL_law 613 = .ok (.iconst 2, 1) := by decide +kernel
theorem dL_law_614 : decode cL_law 614 = .ok (.iadd, 1) := by decide +kernel
theorem dL_law_615 : decode cL_law 615 = .ok (.iaload, 1) := by decide +kernel
theorem dL_law_616 : decode cL_law 616 = .ok (.i2l, 1) := by decide +kernel
theorem dL_law_617 : decode cL_law 617 = .ok (.ldc2_w 90, 3) := by decide +kernel
theorem dL_law_620 : decode cL_law 620 = .ok (.land, 1) := by decide +kernel
theorem dL_law_621 : decode cL_law 621 = .ok (.lor, 1) := by decide +kernel
theorem dL_law_622 : decode cL_law 622 = .ok (.aload_n 0, 1) := by decide +kernel
theorem dL_law_623 : decode cL_law 623 = .ok (.iload_n 3, 1) := by decide +kernel
theorem dL_law_624 : decode cL_law 624 = .ok (.iconst 3, 1) := by decide +kernel
theorem dL_law_625 : decode cL_law 625 = .ok (.iadd, 1) := by decide +kernel
theorem dL_law_626 : decode cL_law 626 = .ok (.iaload, 1) := by decide +kernel
theorem dL_law_627 : decode cL_law 627 = .ok (.invokevirtual 92, 3) := by decide +kernel
theorem dL_law_630 : decode cL_law 630 = .ok (.aload_n 2, 1) := by decide +kernel
theorem dL_law_631 : decode cL_law 631 = .ok (.aload_n 0, 1) := by decide +kernel
theorem dL_law_632 : decode cL_law 632 = .ok (.iload_n 3, 1) := by decide +kernel
theorem dL_law_633 : decode cL_law 633 = .ok (.iconst 1, 1) := by decide +kernel
theorem dL_law_634 : decode cL_law 634 = .ok (.iadd, 1) := by decide +kernel
theorem dL_law_635 : decode cL_law 635 = .ok (.iaload, 1) := by decide +kernel
theorem dL_law_636 : decode cL_law 636 = .ok (.i2l, 1) := by decide +kernel
theorem dL_law_637 : decode cL_law 637 = .ok (.bipush 32, 2) := by decide +kernel
theorem dL_law_639 : decode cL_law 639 = .ok (.lshl, 1) := by decide +kernel
theorem dL_law_640 : decode cL_law 640 = .ok (.aload_n 0, 1) := by decide +kernel
theorem dL_law_641 : decode cL_law 641 = .ok (.iload_n 3, 1) := by decide +kernel
theorem dL_law_642 : decode cL_law 642 = .ok (.iconst 2, 1) := by decide +kernel
theorem dL_law_643 : decode cL_law 643 = .ok (.iadd, 1) := by decide +kernel
theorem dL_law_644 : decode cL_law 644 = .ok (.iaload, 1) := by decide +kernel
theorem dL_law_645 : decode cL_law 645 = .ok (.i2l, 1) := by decide +kernel
theorem dL_law_646 : decode cL_law 646 = .ok (.ldc2_w 90, 3) := by decide +kernel
theorem dL_law_649 : decode cL_law 649 = .ok (.land, 1) := by decide +kernel
theorem dL_law_650 : decode cL_law 650 = .ok (.lor, 1) := by decide +kernel
theorem dL_law_651 : decode cL_law 651 = .ok (.aload_n 0, 1) := by decide +kernel
theorem dL_law_652 : decode cL_law 652 = .ok (.iload_n 3, 1) := by decide +kernel
theorem dL_law_653 : decode cL_law 653 = .ok (.iconst 3, 1) := by decide +kernel
theorem dL_law_654 : decode cL_law 654 = .ok (.iadd, 1) := by decide +kernel
theorem dL_law_655 : decode cL_law 655 = .ok (.iaload, 1) := by decide +kernel
theorem dL_law_656 : decode cL_law 656 = .ok (.invokevirtual 96, 3) := by decide +kernel
theorem dL_law_659 : decode cL_law 659 = .ok (.if_icmp .eq 65, 3) := by decide +kernel
theorem dL_law_662 : decode cL_law 662 = .ok (.iconst 0, 1) := by decide +kernel
theorem dL_law_663 : decode cL_law 663 = .ok (.ireturn, 1) := by decide +kernel
theorem dL_law_664 : decode cL_law 664 = .ok (.aload_n 1, 1) := by decide +kernel
theorem dL_law_665 : decode cL_law 665 = .ok (.invokevirtual 97, 3) := by decide +kernel
theorem dL_law_668 : decode cL_law 668 = .ok (.aload_n 2, 1) := by decide +kernel
theorem dL_law_669 : decode cL_law 669 = .ok (.invokevirtual 101, 3) := by decide +kernel
theorem dL_law_672 : decode cL_law 672 = .ok (.lcmp, 1) := by decide +kernel
theorem dL_law_673 : decode cL_law 673 = .ok (.ifCond .eq 51, 3) := by decide +kernel
theorem dL_law_676 : decode cL_law 676 = .ok (.iconst 0, 1) := by decide +kernel
theorem dL_law_677 : decode cL_law 677 = .ok (.ireturn, 1) := by decide +kernel
theorem dL_law_678 : decode cL_law 678 = .ok (.aload_n 1, 1) := by decide +kernel
theorem dL_law_679 : decode cL_law 679 = .ok (.aload_n 0, 1) := by decide +kernel
theorem dL_law_680 : decode cL_law 680 = .ok (.iload_n 3, 1) := by decide +kernel
theorem dL_law_681 : decode cL_law 681 = .ok (.iconst 1, 1) := by decide +kernel
theorem dL_law_682 : decode cL_law 682 = .ok (.iadd, 1) := by decide +kernel
theorem dL_law_683 : decode cL_law 683 = .ok (.iaload, 1) := by decide +kernel
theorem dL_law_684 : decode cL_law 684 = .ok (.invokevirtual 102, 3) := by decide +kernel
theorem dL_law_687 : decode cL_law 687 = .ok (.aload_n 2, 1) := by decide +kernel
theorem dL_law_688 : decode cL_law 688 = .ok (.aload_n 0, 1) := by decide +kernel
theorem dL_law_689 : decode cL_law 689 = .ok (.iload_n 3, 1) := by decide +kernel
theorem dL_law_690 : decode cL_law 690 = .ok (.iconst 1, 1) := by decide +kernel
theorem dL_law_691 : decode cL_law 691 = .ok (.iadd, 1) := by decide +kernel
theorem dL_law_692 : decode cL_law 692 = .ok (.iaload, 1) := by decide +kernel
theorem dL_law_693 : decode cL_law 693 = .ok (.invokevirtual 105, 3) := by decide +kernel
theorem dL_law_696 : decode cL_law 696 = .ok (.if_icmp .eq 28, 3) := by decide +kernel
theorem dL_law_699 : decode cL_law 699 = .ok (.iconst 0, 1) := by decide +kernel
theorem dL_law_700 : decode cL_law 700 = .ok (.ireturn, 1) := by decide +kernel
theorem dL_law_701 : decode cL_law 701 = .ok (.aload_n 1, 1) := by decide +kernel
theorem dL_law_702 : decode cL_law 702 = .ok (.aload_n 0, 1) := by decide +kernel
theorem dL_law_703 : decode cL_law 703 = .ok (.iload_n 3, 1) := by decide +kernel
theorem dL_law_704 : decode cL_law 704 = .ok (.iconst 1, 1) := by decide +kernel
theorem dL_law_705 : decode cL_law 705 = .ok (.iadd, 1) := by decide +kernel
theorem dL_law_706 : decode cL_law 706 = .ok (.iaload, 1) := by decide +kernel
theorem dL_law_707 : decode cL_law 707 = .ok (.invokevirtual 106, 3) := by decide +kernel
theorem dL_law_710 : decode cL_law 710 = .ok (.aload_n 2, 1) := by decide +kernel
theorem dL_law_711 : decode cL_law 711 = .ok (.aload_n 0, 1) := by decide +kernel
theorem dL_law_712 : decode cL_law 712 = .ok (.iload_n 3, 1) := by decide +kernel
theorem dL_law_713 : decode cL_law 713 = .ok (.iconst 1, 1) := by decide +kernel
theorem dL_law_714 : decode cL_law 714 = .ok (.iadd, 1) := by decide +kernel
theorem dL_law_715 : decode cL_law 715 = .ok (.iaload, 1) := by decide +kernel
theorem dL_law_716 : decode cL_law 716 = .ok (.invokevirtual 109, 3) := by decide +kernel
theorem dL_law_719 : decode cL_law 719 = .ok (.if_icmp .eq 5, 3) := by decide +kernel
theorem dL_law_722 : decode cL_law 722 = .ok (.iconst 0, 1) := by decide +kernel
theorem dL_law_723 : decode cL_law 723 = .ok (.ireturn, 1) := by decide +kernel
theorem dL_law_724 : decode cL_law 724 = .ok (.iinc 3 4, 3) := by decide +kernel
theorem dL_law_727 : decode cL_law 727 = .ok (.goto (-709), 3) := by decide +kernel
theorem dL_law_730 : decode cL_law 730 = .ok (.iconst 1, 1) := by decide +kernel
theorem dL_law_731 : decode cL_law 731 = .ok (.ireturn, 1) := by decide +kernel
end
section
theorem zz_last : True := trivial
end
