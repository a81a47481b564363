/-! base: the classes, the words by name, the cells by their numbers, the rows over the world -/
abbrev vwCl : List vw_C := [(RX0, TX0, 2), (RX1, TX1, 4), (RX2, TX2, 2), (RX3, TX3, 6), (RX4, TX4, 2), (RX5, TX5, 8), (RX6, TX6, 8)]
theorem tb_1 : ∀ w ∈ tables_1_1, w ∈ lw_tbl := fun _ h => List.mem_append_right _ (List.mem_append_left _ h)
theorem tb_2 : ∀ w ∈ tables_1_2, w ∈ lw_tbl := fun _ h => List.mem_append_right _ (List.mem_append_right _ (List.mem_append_left _ h))
theorem tb_3 : ∀ w ∈ tables_1_3, w ∈ lw_tbl := fun _ h => List.mem_append_right _ (List.mem_append_right _ (List.mem_append_right _ (h)))
def wL : List Cond := lw_tbl.filter goodWord
theorem wL_in : ∀ w ∈ wL, w ∈ lw_tbl := fun w h => (List.mem_filter.mp h).1
theorem wL_of {w : Cond} (h : w ∈ lw_tbl) (g : goodWord w = true) : w ∈ wL := List.mem_filter.mpr ⟨h, g⟩
theorem in_L : Cond.initialized "PhraseReaderLaw" ∈ wL := wL_of (tb_1 _ (List.mem_of_getElem? (i := 0) rfl)) rfl
theorem in_X6 : Cond.initialized RX6 ∈ wL := wL_of (tb_1 _ (List.mem_of_getElem? (i := 1) rfl)) rfl
theorem in_X0 : Cond.initialized RX0 ∈ wL := wL_of (tb_1 _ (List.mem_of_getElem? (i := 2) rfl)) rfl
theorem in_X1 : Cond.initialized RX1 ∈ wL := wL_of (tb_1 _ (List.mem_of_getElem? (i := 3) rfl)) rfl
theorem in_X3 : Cond.initialized RX3 ∈ wL := wL_of (tb_1 _ (List.mem_of_getElem? (i := 4) rfl)) rfl
theorem in_X2 : Cond.initialized RX2 ∈ wL := wL_of (tb_1 _ (List.mem_of_getElem? (i := 5) rfl)) rfl
theorem in_X5 : Cond.initialized RX5 ∈ wL := wL_of (tb_1 _ (List.mem_of_getElem? (i := 6) rfl)) rfl
theorem in_X4 : Cond.initialized RX4 ∈ wL := wL_of (tb_1 _ (List.mem_of_getElem? (i := 7) rfl)) rfl
theorem in_J9 : Cond.initialized "java/lang/Math" ∈ wL := wL_of (tb_1 _ (List.mem_of_getElem? (i := 8) rfl)) rfl
theorem in_J6 : Cond.initialized "java/lang/Integer" ∈ wL := wL_of (tb_1 _ (List.mem_of_getElem? (i := 9) rfl)) rfl
theorem kl_L_10 : Cond.classLink RL 10 RX6 ∈ wL := wL_of (tb_1 _ (List.mem_of_getElem? (i := 10) rfl)) rfl
theorem ia_X6 : Cond.instantiable RX6 8 ∈ wL := wL_of (tb_1 _ (List.mem_of_getElem? (i := 11) rfl)) rfl
theorem ml_L_97 : Cond.methodLink RL 97 yX6_init ∈ wL := wL_of (tb_1 _ (List.mem_of_getElem? (i := 12) rfl)) rfl
theorem im_X6_init : Cond.instanceMethod yX6_init ∈ wL := wL_of (tb_1 _ (List.mem_of_getElem? (i := 13) rfl)) rfl
theorem co_X6_init : Cond.code yX6_init cX6_init 2 none ∈ wL := wL_of (tb_1 _ (List.mem_of_getElem? (i := 14) rfl)) rfl
theorem ml_X6_1 : Cond.methodLink RX6 1 ({ cls := "java/lang/Object", name := "<init>", desc := "()V" } : Jvm.MethodName) ∈ wL := wL_of (tb_1 _ (List.mem_of_getElem? (i := 15) rfl)) rfl
theorem kl_X6_7 : Cond.classLink RX6 7 RX0 ∈ wL := wL_of (tb_1 _ (List.mem_of_getElem? (i := 18) rfl)) rfl
theorem ia_X0 : Cond.instantiable RX0 2 ∈ wL := wL_of (tb_1 _ (List.mem_of_getElem? (i := 19) rfl)) rfl
theorem im_X0_init : Cond.instanceMethod yX0_init ∈ wL := wL_of (tb_1 _ (List.mem_of_getElem? (i := 21) rfl)) rfl
theorem co_X0_init : Cond.code yX0_init cX0_init 1 none ∈ wL := wL_of (tb_1 _ (List.mem_of_getElem? (i := 22) rfl)) rfl
theorem ml_X0_3 : Cond.methodLink RX0 3 ({ cls := "java/lang/Object", name := "<init>", desc := "()V" } : Jvm.MethodName) ∈ wL := wL_of (tb_1 _ (List.mem_of_getElem? (i := 23) rfl)) rfl
theorem fl_X0_9 : Cond.fieldLink RX0 9 "PhraseReader$Bytes" "codes" "[I" ∈ wL := wL_of (tb_1 _ (List.mem_of_getElem? (i := 24) rfl)) rfl
theorem fl_X0_15 : Cond.fieldLink RX0 15 "PhraseReader$Bytes" "length" "I" ∈ wL := wL_of (tb_1 _ (List.mem_of_getElem? (i := 25) rfl)) rfl
theorem la_X0_codes : Cond.laysFinal "PhraseReader$Bytes" "PhraseReader$Bytes" "codes" "[I" ∈ wL := wL_of (tb_1 _ (List.mem_of_getElem? (i := 28) rfl)) rfl
theorem la_X0_length : Cond.lays "PhraseReader$Bytes" "PhraseReader$Bytes" "length" "I" ∈ wL := wL_of (tb_1 _ (List.mem_of_getElem? (i := 30) rfl)) rfl
theorem ac_I : Cond.arrayClass .int ∈ wL := wL_of (tb_1 _ (List.mem_of_getElem? (i := 33) rfl)) rfl
theorem kl_X6_19 : Cond.classLink RX6 19 RX1 ∈ wL := wL_of (tb_1 _ (List.mem_of_getElem? (i := 34) rfl)) rfl
theorem ia_X1 : Cond.instantiable RX1 4 ∈ wL := wL_of (tb_1 _ (List.mem_of_getElem? (i := 35) rfl)) rfl
theorem im_X1_init : Cond.instanceMethod yX1_init ∈ wL := wL_of (tb_1 _ (List.mem_of_getElem? (i := 37) rfl)) rfl
theorem co_X1_init : Cond.code yX1_init cX1_init 2 none ∈ wL := wL_of (tb_1 _ (List.mem_of_getElem? (i := 38) rfl)) rfl
theorem ml_X1_3 : Cond.methodLink RX1 3 ({ cls := "java/lang/Object", name := "<init>", desc := "()V" } : Jvm.MethodName) ∈ wL := wL_of (tb_1 _ (List.mem_of_getElem? (i := 39) rfl)) rfl
theorem kl_X1_9 : Cond.classLink RX1 9 RX3 ∈ wL := wL_of (tb_1 _ (List.mem_of_getElem? (i := 40) rfl)) rfl
theorem ia_X3 : Cond.instantiable RX3 6 ∈ wL := wL_of (tb_1 _ (List.mem_of_getElem? (i := 42) rfl)) rfl
theorem im_X3_init : Cond.instanceMethod yX3_init ∈ wL := wL_of (tb_1 _ (List.mem_of_getElem? (i := 44) rfl)) rfl
theorem co_X3_init : Cond.code yX3_init cX3_init 1 none ∈ wL := wL_of (tb_1 _ (List.mem_of_getElem? (i := 45) rfl)) rfl
theorem ml_X3_3 : Cond.methodLink RX3 3 ({ cls := "java/lang/Object", name := "<init>", desc := "()V" } : Jvm.MethodName) ∈ wL := wL_of (tb_1 _ (List.mem_of_getElem? (i := 46) rfl)) rfl
theorem fl_X3_9 : Cond.fieldLink RX3 9 "PhraseReader$Member" "word" "I" ∈ wL := wL_of (tb_1 _ (List.mem_of_getElem? (i := 47) rfl)) rfl
theorem fl_X3_15 : Cond.fieldLink RX3 15 "PhraseReader$Member" "kind" "I" ∈ wL := wL_of (tb_1 _ (List.mem_of_getElem? (i := 49) rfl)) rfl
theorem fl_X3_18 : Cond.fieldLink RX3 18 "PhraseReader$Member" "least" "I" ∈ wL := wL_of (tb_1 _ (List.mem_of_getElem? (i := 52) rfl)) rfl
theorem fl_X3_21 : Cond.fieldLink RX3 21 "PhraseReader$Member" "most" "I" ∈ wL := wL_of (tb_1 _ (List.mem_of_getElem? (i := 54) rfl)) rfl
theorem fl_X3_24 : Cond.fieldLink RX3 24 "PhraseReader$Member" "fallback" "I" ∈ wL := wL_of (tb_1 _ (List.mem_of_getElem? (i := 56) rfl)) rfl
theorem fl_X3_27 : Cond.fieldLink RX3 27 "PhraseReader$Member" "before" "I" ∈ wL := wL_of (tb_1 _ (List.mem_of_getElem? (i := 59) rfl)) rfl
theorem la_X3_word : Cond.lays "PhraseReader$Member" "PhraseReader$Member" "word" "I" ∈ wL := wL_of (tb_1 _ (List.mem_of_getElem? (i := 62) rfl)) rfl
theorem la_X3_kind : Cond.lays "PhraseReader$Member" "PhraseReader$Member" "kind" "I" ∈ wL := wL_of (tb_1 _ (List.mem_of_getElem? (i := 64) rfl)) rfl
theorem la_X3_least : Cond.lays "PhraseReader$Member" "PhraseReader$Member" "least" "I" ∈ wL := wL_of (tb_1 _ (List.mem_of_getElem? (i := 66) rfl)) rfl
theorem la_X3_most : Cond.lays "PhraseReader$Member" "PhraseReader$Member" "most" "I" ∈ wL := wL_of (tb_1 _ (List.mem_of_getElem? (i := 68) rfl)) rfl
theorem la_X3_fallback : Cond.lays "PhraseReader$Member" "PhraseReader$Member" "fallback" "I" ∈ wL := wL_of (tb_1 _ (List.mem_of_getElem? (i := 70) rfl)) rfl
theorem la_X3_before : Cond.lays "PhraseReader$Member" "PhraseReader$Member" "before" "I" ∈ wL := wL_of (tb_1 _ (List.mem_of_getElem? (i := 72) rfl)) rfl
theorem fl_X1_11 : Cond.fieldLink RX1 11 "PhraseReader$Declarations" "members" "[LPhraseReader$Member;" ∈ wL := wL_of (tb_1 _ (List.mem_of_getElem? (i := 75) rfl)) rfl
theorem fl_X1_18 : Cond.fieldLink RX1 18 "PhraseReader$Declarations" "nobody" "LPhraseReader$Member;" ∈ wL := wL_of (tb_1 _ (List.mem_of_getElem? (i := 76) rfl)) rfl
theorem fl_X1_22 : Cond.fieldLink RX1 22 "PhraseReader$Declarations" "count" "I" ∈ wL := wL_of (tb_1 _ (List.mem_of_getElem? (i := 77) rfl)) rfl
theorem fl_X1_26 : Cond.fieldLink RX1 26 "PhraseReader$Declarations" "separator" "I" ∈ wL := wL_of (tb_1 _ (List.mem_of_getElem? (i := 81) rfl)) rfl
theorem la_X1_members : Cond.laysFinal "PhraseReader$Declarations" "PhraseReader$Declarations" "members" "[LPhraseReader$Member;" ∈ wL := wL_of (tb_1 _ (List.mem_of_getElem? (i := 84) rfl)) rfl
theorem la_X1_nobody : Cond.laysFinal "PhraseReader$Declarations" "PhraseReader$Declarations" "nobody" "LPhraseReader$Member;" ∈ wL := wL_of (tb_1 _ (List.mem_of_getElem? (i := 86) rfl)) rfl
theorem la_X1_count : Cond.lays "PhraseReader$Declarations" "PhraseReader$Declarations" "count" "I" ∈ wL := wL_of (tb_1 _ (List.mem_of_getElem? (i := 88) rfl)) rfl
theorem la_X1_separator : Cond.lays "PhraseReader$Declarations" "PhraseReader$Declarations" "separator" "I" ∈ wL := wL_of (tb_1 _ (List.mem_of_getElem? (i := 90) rfl)) rfl
theorem kl_X6_26 : Cond.classLink RX6 26 RX2 ∈ wL := wL_of (tb_1 _ (List.mem_of_getElem? (i := 93) rfl)) rfl
theorem ia_X2 : Cond.instantiable RX2 2 ∈ wL := wL_of (tb_1 _ (List.mem_of_getElem? (i := 94) rfl)) rfl
theorem im_X2_init : Cond.instanceMethod yX2_init ∈ wL := wL_of (tb_1 _ (List.mem_of_getElem? (i := 96) rfl)) rfl
theorem co_X2_init : Cond.code yX2_init cX2_init 2 none ∈ wL := wL_of (tb_1 _ (List.mem_of_getElem? (i := 97) rfl)) rfl
theorem ml_X2_3 : Cond.methodLink RX2 3 ({ cls := "java/lang/Object", name := "<init>", desc := "()V" } : Jvm.MethodName) ∈ wL := wL_of (tb_1 _ (List.mem_of_getElem? (i := 98) rfl)) rfl
theorem kl_X2_9 : Cond.classLink RX2 9 RX1 ∈ wL := wL_of (tb_1 _ (List.mem_of_getElem? (i := 99) rfl)) rfl
theorem fl_X2_11 : Cond.fieldLink RX2 11 "PhraseReader$History" "states" "[LPhraseReader$Declarations;" ∈ wL := wL_of (tb_1 _ (List.mem_of_getElem? (i := 102) rfl)) rfl
theorem fl_X2_18 : Cond.fieldLink RX2 18 "PhraseReader$History" "count" "I" ∈ wL := wL_of (tb_1 _ (List.mem_of_getElem? (i := 103) rfl)) rfl
theorem la_X2_states : Cond.laysFinal "PhraseReader$History" "PhraseReader$History" "states" "[LPhraseReader$Declarations;" ∈ wL := wL_of (tb_1 _ (List.mem_of_getElem? (i := 105) rfl)) rfl
theorem la_X2_count : Cond.lays "PhraseReader$History" "PhraseReader$History" "count" "I" ∈ wL := wL_of (tb_1 _ (List.mem_of_getElem? (i := 107) rfl)) rfl
theorem kl_X6_41 : Cond.classLink RX6 41 RX5 ∈ wL := wL_of (tb_1 _ (List.mem_of_getElem? (i := 110) rfl)) rfl
theorem ia_X5 : Cond.instantiable RX5 8 ∈ wL := wL_of (tb_1 _ (List.mem_of_getElem? (i := 111) rfl)) rfl
theorem im_X5_init : Cond.instanceMethod yX5_init ∈ wL := wL_of (tb_1 _ (List.mem_of_getElem? (i := 113) rfl)) rfl
theorem co_X5_init : Cond.code yX5_init cX5_init 1 none ∈ wL := wL_of (tb_1 _ (List.mem_of_getElem? (i := 114) rfl)) rfl
theorem ml_X5_3 : Cond.methodLink RX5 3 ({ cls := "java/lang/Object", name := "<init>", desc := "()V" } : Jvm.MethodName) ∈ wL := wL_of (tb_1 _ (List.mem_of_getElem? (i := 115) rfl)) rfl
theorem fl_X5_9 : Cond.fieldLink RX5 9 "PhraseReader$Reading" "ends" "[I" ∈ wL := wL_of (tb_1 _ (List.mem_of_getElem? (i := 116) rfl)) rfl
theorem fl_X5_15 : Cond.fieldLink RX5 15 "PhraseReader$Reading" "steps" "[I" ∈ wL := wL_of (tb_1 _ (List.mem_of_getElem? (i := 117) rfl)) rfl
theorem fl_X5_18 : Cond.fieldLink RX5 18 "PhraseReader$Reading" "ways" "[J" ∈ wL := wL_of (tb_1 _ (List.mem_of_getElem? (i := 118) rfl)) rfl
theorem fl_X5_22 : Cond.fieldLink RX5 22 "PhraseReader$Reading" "members" "[I" ∈ wL := wL_of (tb_1 _ (List.mem_of_getElem? (i := 119) rfl)) rfl
theorem fl_X5_25 : Cond.fieldLink RX5 25 "PhraseReader$Reading" "starts" "[I" ∈ wL := wL_of (tb_1 _ (List.mem_of_getElem? (i := 120) rfl)) rfl
theorem fl_X5_28 : Cond.fieldLink RX5 28 "PhraseReader$Reading" "numbers" "[I" ∈ wL := wL_of (tb_1 _ (List.mem_of_getElem? (i := 121) rfl)) rfl
theorem fl_X5_49 : Cond.fieldLink RX5 49 "PhraseReader$Reading" "count" "I" ∈ wL := wL_of (tb_1 _ (List.mem_of_getElem? (i := 122) rfl)) rfl
theorem fl_X5_31 : Cond.fieldLink RX5 31 "PhraseReader$Reading" "known" "Z" ∈ wL := wL_of (tb_1 _ (List.mem_of_getElem? (i := 125) rfl)) rfl
theorem la_X5_ends : Cond.laysFinal "PhraseReader$Reading" "PhraseReader$Reading" "ends" "[I" ∈ wL := wL_of (tb_1 _ (List.mem_of_getElem? (i := 126) rfl)) rfl
theorem la_X5_steps : Cond.laysFinal "PhraseReader$Reading" "PhraseReader$Reading" "steps" "[I" ∈ wL := wL_of (tb_1 _ (List.mem_of_getElem? (i := 128) rfl)) rfl
theorem la_X5_ways : Cond.laysFinal "PhraseReader$Reading" "PhraseReader$Reading" "ways" "[J" ∈ wL := wL_of (tb_1 _ (List.mem_of_getElem? (i := 130) rfl)) rfl
theorem la_X5_members : Cond.laysFinal "PhraseReader$Reading" "PhraseReader$Reading" "members" "[I" ∈ wL := wL_of (tb_1 _ (List.mem_of_getElem? (i := 132) rfl)) rfl
theorem la_X5_starts : Cond.laysFinal "PhraseReader$Reading" "PhraseReader$Reading" "starts" "[I" ∈ wL := wL_of (tb_1 _ (List.mem_of_getElem? (i := 134) rfl)) rfl
theorem la_X5_numbers : Cond.laysFinal "PhraseReader$Reading" "PhraseReader$Reading" "numbers" "[I" ∈ wL := wL_of (tb_1 _ (List.mem_of_getElem? (i := 136) rfl)) rfl
theorem la_X5_count : Cond.lays "PhraseReader$Reading" "PhraseReader$Reading" "count" "I" ∈ wL := wL_of (tb_1 _ (List.mem_of_getElem? (i := 138) rfl)) rfl
theorem la_X5_known : Cond.lays "PhraseReader$Reading" "PhraseReader$Reading" "known" "Z" ∈ wL := wL_of (tb_1 _ (List.mem_of_getElem? (i := 140) rfl)) rfl
theorem ac_Z : Cond.arrayClass .boolean ∈ wL := wL_of (tb_1 _ (List.mem_of_getElem? (i := 143) rfl)) rfl
theorem ac_J : Cond.arrayClass .long ∈ wL := wL_of (tb_1 _ (List.mem_of_getElem? (i := 144) rfl)) rfl
theorem kl_X6_48 : Cond.classLink RX6 48 RX4 ∈ wL := wL_of (tb_1 _ (List.mem_of_getElem? (i := 145) rfl)) rfl
theorem ia_X4 : Cond.instantiable RX4 2 ∈ wL := wL_of (tb_1 _ (List.mem_of_getElem? (i := 146) rfl)) rfl
theorem im_X4_init : Cond.instanceMethod yX4_init ∈ wL := wL_of (tb_1 _ (List.mem_of_getElem? (i := 148) rfl)) rfl
theorem co_X4_init : Cond.code yX4_init cX4_init 1 none ∈ wL := wL_of (tb_1 _ (List.mem_of_getElem? (i := 149) rfl)) rfl
theorem ml_X4_3 : Cond.methodLink RX4 3 ({ cls := "java/lang/Object", name := "<init>", desc := "()V" } : Jvm.MethodName) ∈ wL := wL_of (tb_1 _ (List.mem_of_getElem? (i := 150) rfl)) rfl
theorem fl_X4_9 : Cond.fieldLink RX4 9 "PhraseReader$OrderTable" "counts" "[J" ∈ wL := wL_of (tb_1 _ (List.mem_of_getElem? (i := 151) rfl)) rfl
theorem fl_X4_15 : Cond.fieldLink RX4 15 "PhraseReader$OrderTable" "knownLength" "I" ∈ wL := wL_of (tb_1 _ (List.mem_of_getElem? (i := 152) rfl)) rfl
theorem la_X4_counts : Cond.laysFinal "PhraseReader$OrderTable" "PhraseReader$OrderTable" "counts" "[J" ∈ wL := wL_of (tb_1 _ (List.mem_of_getElem? (i := 153) rfl)) rfl
theorem la_X4_knownLength : Cond.lays "PhraseReader$OrderTable" "PhraseReader$OrderTable" "knownLength" "I" ∈ wL := wL_of (tb_1 _ (List.mem_of_getElem? (i := 155) rfl)) rfl
theorem fl_X6_10 : Cond.fieldLink RX6 10 "PhraseReader" "text" "LPhraseReader$Bytes;" ∈ wL := wL_of (tb_1 _ (List.mem_of_getElem? (i := 158) rfl)) rfl
theorem fl_X6_16 : Cond.fieldLink RX6 16 "PhraseReader" "normalForm" "LPhraseReader$Bytes;" ∈ wL := wL_of (tb_1 _ (List.mem_of_getElem? (i := 159) rfl)) rfl
theorem fl_X6_22 : Cond.fieldLink RX6 22 "PhraseReader" "now" "LPhraseReader$Declarations;" ∈ wL := wL_of (tb_1 _ (List.mem_of_getElem? (i := 160) rfl)) rfl
theorem fl_X6_29 : Cond.fieldLink RX6 29 "PhraseReader" "history" "LPhraseReader$History;" ∈ wL := wL_of (tb_1 _ (List.mem_of_getElem? (i := 161) rfl)) rfl
theorem fl_X6_33 : Cond.fieldLink RX6 33 "PhraseReader" "images" "[LPhraseReader$Declarations;" ∈ wL := wL_of (tb_1 _ (List.mem_of_getElem? (i := 162) rfl)) rfl
theorem fl_X6_37 : Cond.fieldLink RX6 37 "PhraseReader" "kept" "[Z" ∈ wL := wL_of (tb_1 _ (List.mem_of_getElem? (i := 163) rfl)) rfl
theorem fl_X6_44 : Cond.fieldLink RX6 44 "PhraseReader" "reading" "LPhraseReader$Reading;" ∈ wL := wL_of (tb_1 _ (List.mem_of_getElem? (i := 164) rfl)) rfl
theorem fl_X6_51 : Cond.fieldLink RX6 51 "PhraseReader" "orderTable" "LPhraseReader$OrderTable;" ∈ wL := wL_of (tb_1 _ (List.mem_of_getElem? (i := 165) rfl)) rfl
theorem la_X6_text : Cond.laysFinal "PhraseReader" "PhraseReader" "text" "LPhraseReader$Bytes;" ∈ wL := wL_of (tb_1 _ (List.mem_of_getElem? (i := 166) rfl)) rfl
theorem la_X6_normalForm : Cond.laysFinal "PhraseReader" "PhraseReader" "normalForm" "LPhraseReader$Bytes;" ∈ wL := wL_of (tb_1 _ (List.mem_of_getElem? (i := 168) rfl)) rfl
theorem la_X6_now : Cond.laysFinal "PhraseReader" "PhraseReader" "now" "LPhraseReader$Declarations;" ∈ wL := wL_of (tb_1 _ (List.mem_of_getElem? (i := 170) rfl)) rfl
theorem la_X6_history : Cond.laysFinal "PhraseReader" "PhraseReader" "history" "LPhraseReader$History;" ∈ wL := wL_of (tb_1 _ (List.mem_of_getElem? (i := 172) rfl)) rfl
theorem la_X6_images : Cond.laysFinal "PhraseReader" "PhraseReader" "images" "[LPhraseReader$Declarations;" ∈ wL := wL_of (tb_1 _ (List.mem_of_getElem? (i := 174) rfl)) rfl
theorem la_X6_kept : Cond.laysFinal "PhraseReader" "PhraseReader" "kept" "[Z" ∈ wL := wL_of (tb_1 _ (List.mem_of_getElem? (i := 176) rfl)) rfl
theorem la_X6_reading : Cond.laysFinal "PhraseReader" "PhraseReader" "reading" "LPhraseReader$Reading;" ∈ wL := wL_of (tb_1 _ (List.mem_of_getElem? (i := 178) rfl)) rfl
theorem la_X6_orderTable : Cond.laysFinal "PhraseReader" "PhraseReader" "orderTable" "LPhraseReader$OrderTable;" ∈ wL := wL_of (tb_1 _ (List.mem_of_getElem? (i := 180) rfl)) rfl
theorem ml_L_98 : Cond.methodLink RL 98 yL_cell ∈ wL := wL_of (tb_1 _ (List.mem_of_getElem? (i := 183) rfl)) rfl
theorem st_L_cell : Cond.static yL_cell ∈ wL := wL_of (tb_1 _ (List.mem_of_getElem? (i := 184) rfl)) rfl
theorem co_L_cell : Cond.code yL_cell cL_cell 2 (some .int) ∈ wL := wL_of (tb_1 _ (List.mem_of_getElem? (i := 185) rfl)) rfl
theorem ct_L_7 : Cond.constant RL 7 (747796405) ∈ wL := wL_of (tb_1 _ (List.mem_of_getElem? (i := 186) rfl)) rfl
theorem ml_L_102 : Cond.methodLink RL 102 yL_change ∈ wL := wL_of (tb_1 _ (List.mem_of_getElem? (i := 187) rfl)) rfl
theorem st_L_change : Cond.static yL_change ∈ wL := wL_of (tb_1 _ (List.mem_of_getElem? (i := 188) rfl)) rfl
theorem co_L_change : Cond.code yL_change cL_change 7 (some .int) ∈ wL := wL_of (tb_1 _ (List.mem_of_getElem? (i := 189) rfl)) rfl
theorem ml_L_15 : Cond.methodLink RL 15 yL_low ∈ wL := wL_of (tb_1 _ (List.mem_of_getElem? (i := 190) rfl)) rfl
theorem st_L_low : Cond.static yL_low ∈ wL := wL_of (tb_1 _ (List.mem_of_getElem? (i := 191) rfl)) rfl
theorem co_L_low : Cond.code yL_low cL_low 2 (some .int) ∈ wL := wL_of (tb_1 _ (List.mem_of_getElem? (i := 192) rfl)) rfl
theorem ct_L_8 : Cond.constant RL 8 (2147483647) ∈ wL := wL_of (tb_1 _ (List.mem_of_getElem? (i := 193) rfl)) rfl
theorem ml_L_25 : Cond.methodLink RL 25 yL_word ∈ wL := wL_of (tb_1 _ (List.mem_of_getElem? (i := 194) rfl)) rfl
theorem st_L_word : Cond.static yL_word ∈ wL := wL_of (tb_1 _ (List.mem_of_getElem? (i := 195) rfl)) rfl
theorem co_L_word : Cond.code yL_word cL_word 5 (some .int) ∈ wL := wL_of (tb_1 _ (List.mem_of_getElem? (i := 196) rfl)) rfl
theorem ml_L_9 : Cond.methodLink RL 9 yX6_wipe ∈ wL := wL_of (tb_1 _ (List.mem_of_getElem? (i := 197) rfl)) rfl
theorem im_X6_wipe : Cond.instanceMethod yX6_wipe ∈ wL := wL_of (tb_1 _ (List.mem_of_getElem? (i := 198) rfl)) rfl
theorem se_X6_wipe : Cond.selects RX6 yX6_wipe yX6_wipe ∈ wL := wL_of (tb_1 _ (List.mem_of_getElem? (i := 199) rfl)) rfl
theorem co_X6_wipe : Cond.code yX6_wipe cX6_wipe 2 (some .int) ∈ wL := wL_of (tb_1 _ (List.mem_of_getElem? (i := 200) rfl)) rfl
theorem im_X0_clear : Cond.instanceMethod yX0_clear ∈ wL := wL_of (tb_1 _ (List.mem_of_getElem? (i := 203) rfl)) rfl
theorem co_X0_clear : Cond.code yX0_clear cX0_clear 1 none ∈ wL := wL_of (tb_1 _ (List.mem_of_getElem? (i := 204) rfl)) rfl
theorem im_X5_forget : Cond.instanceMethod yX5_forget ∈ wL := wL_of (tb_1 _ (List.mem_of_getElem? (i := 207) rfl)) rfl
theorem co_X5_forget : Cond.code yX5_forget cX5_forget 1 none ∈ wL := wL_of (tb_1 _ (List.mem_of_getElem? (i := 208) rfl)) rfl
theorem ml_L_21 : Cond.methodLink RL 21 yX6_write ∈ wL := wL_of (tb_1 _ (List.mem_of_getElem? (i := 209) rfl)) rfl
theorem im_X6_write : Cond.instanceMethod yX6_write ∈ wL := wL_of (tb_1 _ (List.mem_of_getElem? (i := 210) rfl)) rfl
theorem se_X6_write : Cond.selects RX6 yX6_write yX6_write ∈ wL := wL_of (tb_1 _ (List.mem_of_getElem? (i := 211) rfl)) rfl
theorem co_X6_write : Cond.code yX6_write cX6_write 2 (some .int) ∈ wL := wL_of (tb_1 _ (List.mem_of_getElem? (i := 212) rfl)) rfl
theorem im_X0_append : Cond.instanceMethod yX0_append ∈ wL := wL_of (tb_1 _ (List.mem_of_getElem? (i := 215) rfl)) rfl
theorem co_X0_append : Cond.code yX0_append cX0_append 2 (some .boolean) ∈ wL := wL_of (tb_1 _ (List.mem_of_getElem? (i := 216) rfl)) rfl
theorem ml_L_29 : Cond.methodLink RL 29 yX6_declare ∈ wL := wL_of (tb_1 _ (List.mem_of_getElem? (i := 217) rfl)) rfl
theorem im_X6_declare : Cond.instanceMethod yX6_declare ∈ wL := wL_of (tb_1 _ (List.mem_of_getElem? (i := 218) rfl)) rfl
theorem se_X6_declare : Cond.selects RX6 yX6_declare yX6_declare ∈ wL := wL_of (tb_1 _ (List.mem_of_getElem? (i := 219) rfl)) rfl
theorem co_X6_declare : Cond.code yX6_declare cX6_declare 6 (some .int) ∈ wL := wL_of (tb_1 _ (List.mem_of_getElem? (i := 220) rfl)) rfl
theorem ml_X6_69 : Cond.methodLink RX6 69 yX6_isKind ∈ wL := wL_of (tb_1 _ (List.mem_of_getElem? (i := 221) rfl)) rfl
theorem st_X6_isKind : Cond.static yX6_isKind ∈ wL := wL_of (tb_1 _ (List.mem_of_getElem? (i := 222) rfl)) rfl
theorem co_X6_isKind : Cond.code yX6_isKind cX6_isKind 1 (some .boolean) ∈ wL := wL_of (tb_1 _ (List.mem_of_getElem? (i := 223) rfl)) rfl
theorem im_X0_asWord : Cond.instanceMethod yX0_asWord ∈ wL := wL_of (tb_1 _ (List.mem_of_getElem? (i := 226) rfl)) rfl
theorem co_X0_asWord : Cond.code yX0_asWord cX0_asWord 3 (some .int) ∈ wL := wL_of (tb_1 _ (List.mem_of_getElem? (i := 227) rfl)) rfl
theorem ml_X0_19 : Cond.methodLink RX0 19 yX0_at ∈ wL := wL_of (tb_1 _ (List.mem_of_getElem? (i := 228) rfl)) rfl
theorem im_X0_at : Cond.instanceMethod yX0_at ∈ wL := wL_of (tb_1 _ (List.mem_of_getElem? (i := 230) rfl)) rfl
theorem co_X0_at : Cond.code yX0_at cX0_at 2 (some .int) ∈ wL := wL_of (tb_1 _ (List.mem_of_getElem? (i := 231) rfl)) rfl
theorem st_X6_isSmallLetter : Cond.static yX6_isSmallLetter ∈ wL := wL_of (tb_1 _ (List.mem_of_getElem? (i := 233) rfl)) rfl
theorem co_X6_isSmallLetter : Cond.code yX6_isSmallLetter cX6_isSmallLetter 1 (some .boolean) ∈ wL := wL_of (tb_1 _ (List.mem_of_getElem? (i := 234) rfl)) rfl
theorem im_X1_hasWord : Cond.instanceMethod yX1_hasWord ∈ wL := wL_of (tb_1 _ (List.mem_of_getElem? (i := 237) rfl)) rfl
theorem co_X1_hasWord : Cond.code yX1_hasWord cX1_hasWord 3 (some .boolean) ∈ wL := wL_of (tb_1 _ (List.mem_of_getElem? (i := 238) rfl)) rfl
theorem ml_X1_29 : Cond.methodLink RX1 29 yX1_at ∈ wL := wL_of (tb_1 _ (List.mem_of_getElem? (i := 239) rfl)) rfl
theorem im_X1_at : Cond.instanceMethod yX1_at ∈ wL := wL_of (tb_2 _ (List.mem_of_getElem? (i := 1) rfl)) rfl
theorem co_X1_at : Cond.code yX1_at cX1_at 2 (some (.object "PhraseReader$Member")) ∈ wL := wL_of (tb_2 _ (List.mem_of_getElem? (i := 2) rfl)) rfl
theorem ml_X6_82 : Cond.methodLink RX6 82 yX6_beginChange ∈ wL := wL_of (tb_2 _ (List.mem_of_getElem? (i := 3) rfl)) rfl
theorem im_X6_beginChange : Cond.instanceMethod yX6_beginChange ∈ wL := wL_of (tb_2 _ (List.mem_of_getElem? (i := 5) rfl)) rfl
theorem co_X6_beginChange : Cond.code yX6_beginChange cX6_beginChange 1 none ∈ wL := wL_of (tb_2 _ (List.mem_of_getElem? (i := 6) rfl)) rfl
theorem im_X2_record : Cond.instanceMethod yX2_record ∈ wL := wL_of (tb_2 _ (List.mem_of_getElem? (i := 9) rfl)) rfl
theorem co_X2_record : Cond.code yX2_record cX2_record 2 none ∈ wL := wL_of (tb_2 _ (List.mem_of_getElem? (i := 10) rfl)) rfl
theorem ml_X2_22 : Cond.methodLink RX2 22 yX2_dropOldest ∈ wL := wL_of (tb_2 _ (List.mem_of_getElem? (i := 11) rfl)) rfl
theorem im_X2_dropOldest : Cond.instanceMethod yX2_dropOldest ∈ wL := wL_of (tb_2 _ (List.mem_of_getElem? (i := 13) rfl)) rfl
theorem co_X2_dropOldest : Cond.code yX2_dropOldest cX2_dropOldest 3 none ∈ wL := wL_of (tb_2 _ (List.mem_of_getElem? (i := 14) rfl)) rfl
theorem im_X1_copyFrom : Cond.instanceMethod yX1_copyFrom ∈ wL := wL_of (tb_2 _ (List.mem_of_getElem? (i := 17) rfl)) rfl
theorem co_X1_copyFrom : Cond.code yX1_copyFrom cX1_copyFrom 3 none ∈ wL := wL_of (tb_2 _ (List.mem_of_getElem? (i := 18) rfl)) rfl
theorem im_X3_copyFrom : Cond.instanceMethod yX3_copyFrom ∈ wL := wL_of (tb_2 _ (List.mem_of_getElem? (i := 21) rfl)) rfl
theorem co_X3_copyFrom : Cond.code yX3_copyFrom cX3_copyFrom 2 none ∈ wL := wL_of (tb_2 _ (List.mem_of_getElem? (i := 22) rfl)) rfl
theorem ml_X6_132 : Cond.methodLink RX6 132 yX6_forgetTables ∈ wL := wL_of (tb_2 _ (List.mem_of_getElem? (i := 23) rfl)) rfl
theorem im_X6_forgetTables : Cond.instanceMethod yX6_forgetTables ∈ wL := wL_of (tb_2 _ (List.mem_of_getElem? (i := 25) rfl)) rfl
theorem co_X6_forgetTables : Cond.code yX6_forgetTables cX6_forgetTables 1 none ∈ wL := wL_of (tb_2 _ (List.mem_of_getElem? (i := 26) rfl)) rfl
theorem im_X4_forget : Cond.instanceMethod yX4_forget ∈ wL := wL_of (tb_2 _ (List.mem_of_getElem? (i := 29) rfl)) rfl
theorem co_X4_forget : Cond.code yX4_forget cX4_forget 1 none ∈ wL := wL_of (tb_2 _ (List.mem_of_getElem? (i := 30) rfl)) rfl
theorem im_X1_add : Cond.instanceMethod yX1_add ∈ wL := wL_of (tb_2 _ (List.mem_of_getElem? (i := 33) rfl)) rfl
theorem co_X1_add : Cond.code yX1_add cX1_add 6 (some .int) ∈ wL := wL_of (tb_2 _ (List.mem_of_getElem? (i := 34) rfl)) rfl
theorem ml_L_33 : Cond.methodLink RL 33 yX6_remove ∈ wL := wL_of (tb_2 _ (List.mem_of_getElem? (i := 35) rfl)) rfl
theorem im_X6_remove : Cond.instanceMethod yX6_remove ∈ wL := wL_of (tb_2 _ (List.mem_of_getElem? (i := 36) rfl)) rfl
theorem se_X6_remove : Cond.selects RX6 yX6_remove yX6_remove ∈ wL := wL_of (tb_2 _ (List.mem_of_getElem? (i := 37) rfl)) rfl
theorem co_X6_remove : Cond.code yX6_remove cX6_remove 2 (some .int) ∈ wL := wL_of (tb_2 _ (List.mem_of_getElem? (i := 38) rfl)) rfl
theorem im_X1_has : Cond.instanceMethod yX1_has ∈ wL := wL_of (tb_2 _ (List.mem_of_getElem? (i := 41) rfl)) rfl
theorem co_X1_has : Cond.code yX1_has cX1_has 2 (some .boolean) ∈ wL := wL_of (tb_2 _ (List.mem_of_getElem? (i := 42) rfl)) rfl
theorem im_X1_takeOut : Cond.instanceMethod yX1_takeOut ∈ wL := wL_of (tb_2 _ (List.mem_of_getElem? (i := 45) rfl)) rfl
theorem co_X1_takeOut : Cond.code yX1_takeOut cX1_takeOut 3 none ∈ wL := wL_of (tb_2 _ (List.mem_of_getElem? (i := 46) rfl)) rfl
theorem ml_X1_55 : Cond.methodLink RX1 55 yX1_has ∈ wL := wL_of (tb_2 _ (List.mem_of_getElem? (i := 47) rfl)) rfl
theorem ml_X1_63 : Cond.methodLink RX1 63 yX1_reseat ∈ wL := wL_of (tb_2 _ (List.mem_of_getElem? (i := 48) rfl)) rfl
theorem im_X1_reseat : Cond.instanceMethod yX1_reseat ∈ wL := wL_of (tb_2 _ (List.mem_of_getElem? (i := 50) rfl)) rfl
theorem co_X1_reseat : Cond.code yX1_reseat cX1_reseat 5 none ∈ wL := wL_of (tb_2 _ (List.mem_of_getElem? (i := 51) rfl)) rfl
theorem st_X6_withBitMoved : Cond.static yX6_withBitMoved ∈ wL := wL_of (tb_2 _ (List.mem_of_getElem? (i := 53) rfl)) rfl
theorem co_X6_withBitMoved : Cond.code yX6_withBitMoved cX6_withBitMoved 4 (some .int) ∈ wL := wL_of (tb_2 _ (List.mem_of_getElem? (i := 54) rfl)) rfl
theorem ml_X6_237 : Cond.methodLink RX6 237 yX6_bitsBelow ∈ wL := wL_of (tb_2 _ (List.mem_of_getElem? (i := 55) rfl)) rfl
theorem st_X6_bitsBelow : Cond.static yX6_bitsBelow ∈ wL := wL_of (tb_2 _ (List.mem_of_getElem? (i := 56) rfl)) rfl
theorem co_X6_bitsBelow : Cond.code yX6_bitsBelow cX6_bitsBelow 2 (some .int) ∈ wL := wL_of (tb_2 _ (List.mem_of_getElem? (i := 57) rfl)) rfl
theorem ml_X6_120 : Cond.methodLink RX6 120 yX6_bitOf ∈ wL := wL_of (tb_2 _ (List.mem_of_getElem? (i := 58) rfl)) rfl
theorem st_X6_bitOf : Cond.static yX6_bitOf ∈ wL := wL_of (tb_2 _ (List.mem_of_getElem? (i := 59) rfl)) rfl
theorem co_X6_bitOf : Cond.code yX6_bitOf cX6_bitOf 2 (some .int) ∈ wL := wL_of (tb_2 _ (List.mem_of_getElem? (i := 60) rfl)) rfl
theorem ml_L_36 : Cond.methodLink RL 36 yX6_set ∈ wL := wL_of (tb_2 _ (List.mem_of_getElem? (i := 62) rfl)) rfl
theorem im_X6_set : Cond.instanceMethod yX6_set ∈ wL := wL_of (tb_2 _ (List.mem_of_getElem? (i := 63) rfl)) rfl
theorem se_X6_set : Cond.selects RX6 yX6_set yX6_set ∈ wL := wL_of (tb_2 _ (List.mem_of_getElem? (i := 64) rfl)) rfl
theorem co_X6_set : Cond.code yX6_set cX6_set 4 (some .int) ∈ wL := wL_of (tb_2 _ (List.mem_of_getElem? (i := 65) rfl)) rfl
theorem im_X3_accepts : Cond.instanceMethod yX3_accepts ∈ wL := wL_of (tb_2 _ (List.mem_of_getElem? (i := 69) rfl)) rfl
theorem co_X3_accepts : Cond.code yX3_accepts cX3_accepts 3 (some .boolean) ∈ wL := wL_of (tb_2 _ (List.mem_of_getElem? (i := 70) rfl)) rfl
theorem im_X3_exchange : Cond.instanceMethod yX3_exchange ∈ wL := wL_of (tb_2 _ (List.mem_of_getElem? (i := 74) rfl)) rfl
theorem co_X3_exchange : Cond.code yX3_exchange cX3_exchange 4 (some .int) ∈ wL := wL_of (tb_2 _ (List.mem_of_getElem? (i := 75) rfl)) rfl
theorem ml_X3_48 : Cond.methodLink RX3 48 yX3_property ∈ wL := wL_of (tb_2 _ (List.mem_of_getElem? (i := 76) rfl)) rfl
theorem im_X3_property : Cond.instanceMethod yX3_property ∈ wL := wL_of (tb_2 _ (List.mem_of_getElem? (i := 78) rfl)) rfl
theorem co_X3_property : Cond.code yX3_property cX3_property 2 (some .int) ∈ wL := wL_of (tb_2 _ (List.mem_of_getElem? (i := 79) rfl)) rfl
theorem ml_L_39 : Cond.methodLink RL 39 yX6_move ∈ wL := wL_of (tb_2 _ (List.mem_of_getElem? (i := 80) rfl)) rfl
theorem im_X6_move : Cond.instanceMethod yX6_move ∈ wL := wL_of (tb_2 _ (List.mem_of_getElem? (i := 81) rfl)) rfl
theorem se_X6_move : Cond.selects RX6 yX6_move yX6_move ∈ wL := wL_of (tb_2 _ (List.mem_of_getElem? (i := 82) rfl)) rfl
theorem co_X6_move : Cond.code yX6_move cX6_move 3 (some .int) ∈ wL := wL_of (tb_2 _ (List.mem_of_getElem? (i := 83) rfl)) rfl
theorem ml_L_42 : Cond.methodLink RL 42 yX6_setSeparator ∈ wL := wL_of (tb_2 _ (List.mem_of_getElem? (i := 85) rfl)) rfl
theorem im_X6_setSeparator : Cond.instanceMethod yX6_setSeparator ∈ wL := wL_of (tb_2 _ (List.mem_of_getElem? (i := 86) rfl)) rfl
theorem se_X6_setSeparator : Cond.selects RX6 yX6_setSeparator yX6_setSeparator ∈ wL := wL_of (tb_2 _ (List.mem_of_getElem? (i := 87) rfl)) rfl
theorem co_X6_setSeparator : Cond.code yX6_setSeparator cX6_setSeparator 3 (some .int) ∈ wL := wL_of (tb_2 _ (List.mem_of_getElem? (i := 88) rfl)) rfl
theorem ml_L_45 : Cond.methodLink RL 45 yX6_rule ∈ wL := wL_of (tb_2 _ (List.mem_of_getElem? (i := 89) rfl)) rfl
theorem im_X6_rule : Cond.instanceMethod yX6_rule ∈ wL := wL_of (tb_2 _ (List.mem_of_getElem? (i := 90) rfl)) rfl
theorem se_X6_rule : Cond.selects RX6 yX6_rule yX6_rule ∈ wL := wL_of (tb_2 _ (List.mem_of_getElem? (i := 91) rfl)) rfl
theorem co_X6_rule : Cond.code yX6_rule cX6_rule 6 (some .int) ∈ wL := wL_of (tb_2 _ (List.mem_of_getElem? (i := 92) rfl)) rfl
theorem ml_X6_123 : Cond.methodLink RX6 123 yX6_withBit ∈ wL := wL_of (tb_2 _ (List.mem_of_getElem? (i := 93) rfl)) rfl
theorem st_X6_withBit : Cond.static yX6_withBit ∈ wL := wL_of (tb_2 _ (List.mem_of_getElem? (i := 94) rfl)) rfl
theorem co_X6_withBit : Cond.code yX6_withBit cX6_withBit 3 (some .int) ∈ wL := wL_of (tb_2 _ (List.mem_of_getElem? (i := 95) rfl)) rfl
theorem ml_L_48 : Cond.methodLink RL 48 yX6_keep ∈ wL := wL_of (tb_2 _ (List.mem_of_getElem? (i := 96) rfl)) rfl
theorem im_X6_keep : Cond.instanceMethod yX6_keep ∈ wL := wL_of (tb_2 _ (List.mem_of_getElem? (i := 97) rfl)) rfl
theorem se_X6_keep : Cond.selects RX6 yX6_keep yX6_keep ∈ wL := wL_of (tb_2 _ (List.mem_of_getElem? (i := 98) rfl)) rfl
theorem co_X6_keep : Cond.code yX6_keep cX6_keep 2 (some .int) ∈ wL := wL_of (tb_2 _ (List.mem_of_getElem? (i := 99) rfl)) rfl
theorem ml_X6_231 : Cond.methodLink RX6 231 yX6_isImage ∈ wL := wL_of (tb_2 _ (List.mem_of_getElem? (i := 100) rfl)) rfl
theorem im_X6_isImage : Cond.instanceMethod yX6_isImage ∈ wL := wL_of (tb_2 _ (List.mem_of_getElem? (i := 102) rfl)) rfl
theorem co_X6_isImage : Cond.code yX6_isImage cX6_isImage 2 (some .boolean) ∈ wL := wL_of (tb_2 _ (List.mem_of_getElem? (i := 103) rfl)) rfl
theorem ml_L_51 : Cond.methodLink RL 51 yX6_back ∈ wL := wL_of (tb_2 _ (List.mem_of_getElem? (i := 105) rfl)) rfl
theorem im_X6_back : Cond.instanceMethod yX6_back ∈ wL := wL_of (tb_2 _ (List.mem_of_getElem? (i := 106) rfl)) rfl
theorem se_X6_back : Cond.selects RX6 yX6_back yX6_back ∈ wL := wL_of (tb_2 _ (List.mem_of_getElem? (i := 107) rfl)) rfl
theorem co_X6_back : Cond.code yX6_back cX6_back 2 (some .int) ∈ wL := wL_of (tb_2 _ (List.mem_of_getElem? (i := 108) rfl)) rfl
theorem ml_L_54 : Cond.methodLink RL 54 yX6_undo ∈ wL := wL_of (tb_2 _ (List.mem_of_getElem? (i := 109) rfl)) rfl
theorem im_X6_undo : Cond.instanceMethod yX6_undo ∈ wL := wL_of (tb_2 _ (List.mem_of_getElem? (i := 110) rfl)) rfl
theorem se_X6_undo : Cond.selects RX6 yX6_undo yX6_undo ∈ wL := wL_of (tb_2 _ (List.mem_of_getElem? (i := 111) rfl)) rfl
theorem co_X6_undo : Cond.code yX6_undo cX6_undo 1 (some .int) ∈ wL := wL_of (tb_2 _ (List.mem_of_getElem? (i := 112) rfl)) rfl
theorem im_X2_restore : Cond.instanceMethod yX2_restore ∈ wL := wL_of (tb_2 _ (List.mem_of_getElem? (i := 115) rfl)) rfl
theorem co_X2_restore : Cond.code yX2_restore cX2_restore 2 none ∈ wL := wL_of (tb_2 _ (List.mem_of_getElem? (i := 116) rfl)) rfl
theorem ml_L_110 : Cond.methodLink RL 110 yL_text ∈ wL := wL_of (tb_2 _ (List.mem_of_getElem? (i := 117) rfl)) rfl
theorem st_L_text : Cond.static yL_text ∈ wL := wL_of (tb_2 _ (List.mem_of_getElem? (i := 118) rfl)) rfl
theorem co_L_text : Cond.code yL_text cL_text 12 (some .int) ∈ wL := wL_of (tb_2 _ (List.mem_of_getElem? (i := 119) rfl)) rfl
theorem ml_L_57 : Cond.methodLink RL 57 yX6_told ∈ wL := wL_of (tb_2 _ (List.mem_of_getElem? (i := 120) rfl)) rfl
theorem im_X6_told : Cond.instanceMethod yX6_told ∈ wL := wL_of (tb_2 _ (List.mem_of_getElem? (i := 121) rfl)) rfl
theorem se_X6_told : Cond.selects RX6 yX6_told yX6_told ∈ wL := wL_of (tb_2 _ (List.mem_of_getElem? (i := 122) rfl)) rfl
theorem co_X6_told : Cond.code yX6_told cX6_told 2 (some .int) ∈ wL := wL_of (tb_2 _ (List.mem_of_getElem? (i := 123) rfl)) rfl
theorem im_X1_countRules : Cond.instanceMethod yX1_countRules ∈ wL := wL_of (tb_2 _ (List.mem_of_getElem? (i := 126) rfl)) rfl
theorem co_X1_countRules : Cond.code yX1_countRules cX1_countRules 3 (some .int) ∈ wL := wL_of (tb_2 _ (List.mem_of_getElem? (i := 127) rfl)) rfl
theorem ml_X1_71 : Cond.methodLink RX1 71 yJ6_bitCount_0f7a4 ∈ wL := wL_of (tb_2 _ (List.mem_of_getElem? (i := 128) rfl)) rfl
theorem st_J6_bitCount_0f7a4 : Cond.static yJ6_bitCount_0f7a4 ∈ wL := wL_of (tb_2 _ (List.mem_of_getElem? (i := 129) rfl)) rfl
theorem co_J6_bitCount_0f7a4 : Cond.code yJ6_bitCount_0f7a4 cJ6_bitCount_0f7a4 1 (some .int) ∈ wL := wL_of (tb_2 _ (List.mem_of_getElem? (i := 130) rfl)) rfl
theorem ct_J6_265 : Cond.constant "java/lang/Integer" 265 (1431655765) ∈ wL := wL_of (tb_2 _ (List.mem_of_getElem? (i := 131) rfl)) rfl
theorem ct_J6_266 : Cond.constant "java/lang/Integer" 266 (858993459) ∈ wL := wL_of (tb_2 _ (List.mem_of_getElem? (i := 132) rfl)) rfl
theorem ct_J6_267 : Cond.constant "java/lang/Integer" 267 (252645135) ∈ wL := wL_of (tb_2 _ (List.mem_of_getElem? (i := 133) rfl)) rfl
theorem im_X1_countClashingPairs : Cond.instanceMethod yX1_countClashingPairs ∈ wL := wL_of (tb_2 _ (List.mem_of_getElem? (i := 136) rfl)) rfl
theorem co_X1_countClashingPairs : Cond.code yX1_countClashingPairs cX1_countClashingPairs 3 (some .int) ∈ wL := wL_of (tb_2 _ (List.mem_of_getElem? (i := 137) rfl)) rfl
theorem ml_X1_81 : Cond.methodLink RX1 81 yX1_clashesOf ∈ wL := wL_of (tb_2 _ (List.mem_of_getElem? (i := 138) rfl)) rfl
theorem im_X1_clashesOf : Cond.instanceMethod yX1_clashesOf ∈ wL := wL_of (tb_2 _ (List.mem_of_getElem? (i := 140) rfl)) rfl
theorem co_X1_clashesOf : Cond.code yX1_clashesOf cX1_clashesOf 4 (some .int) ∈ wL := wL_of (tb_2 _ (List.mem_of_getElem? (i := 141) rfl)) rfl
theorem im_X3_clashesWith : Cond.instanceMethod yX3_clashesWith ∈ wL := wL_of (tb_2 _ (List.mem_of_getElem? (i := 144) rfl)) rfl
theorem co_X3_clashesWith : Cond.code yX3_clashesWith cX3_clashesWith 3 (some .boolean) ∈ wL := wL_of (tb_2 _ (List.mem_of_getElem? (i := 145) rfl)) rfl
theorem ml_X3_31 : Cond.methodLink RX3 31 yX3_wordLength ∈ wL := wL_of (tb_2 _ (List.mem_of_getElem? (i := 146) rfl)) rfl
theorem im_X3_wordLength : Cond.instanceMethod yX3_wordLength ∈ wL := wL_of (tb_2 _ (List.mem_of_getElem? (i := 148) rfl)) rfl
theorem co_X3_wordLength : Cond.code yX3_wordLength cX3_wordLength 1 (some .int) ∈ wL := wL_of (tb_2 _ (List.mem_of_getElem? (i := 149) rfl)) rfl
theorem ct_X3_30 : Cond.constant RX3 30 (65535) ∈ wL := wL_of (tb_2 _ (List.mem_of_getElem? (i := 150) rfl)) rfl
theorem ml_X3_35 : Cond.methodLink RX3 35 yJ9_min_7cf53 ∈ wL := wL_of (tb_2 _ (List.mem_of_getElem? (i := 151) rfl)) rfl
theorem st_J9_min_7cf53 : Cond.static yJ9_min_7cf53 ∈ wL := wL_of (tb_2 _ (List.mem_of_getElem? (i := 152) rfl)) rfl
theorem co_J9_min_7cf53 : Cond.code yJ9_min_7cf53 cJ9_min_7cf53 2 (some .int) ∈ wL := wL_of (tb_2 _ (List.mem_of_getElem? (i := 153) rfl)) rfl
theorem im_X1_leastOccurrences : Cond.instanceMethod yX1_leastOccurrences ∈ wL := wL_of (tb_2 _ (List.mem_of_getElem? (i := 157) rfl)) rfl
theorem co_X1_leastOccurrences : Cond.code yX1_leastOccurrences cX1_leastOccurrences 3 (some .int) ∈ wL := wL_of (tb_2 _ (List.mem_of_getElem? (i := 158) rfl)) rfl
theorem im_X1_mostOccurrences : Cond.instanceMethod yX1_mostOccurrences ∈ wL := wL_of (tb_2 _ (List.mem_of_getElem? (i := 161) rfl)) rfl
theorem co_X1_mostOccurrences : Cond.code yX1_mostOccurrences cX1_mostOccurrences 3 (some .int) ∈ wL := wL_of (tb_2 _ (List.mem_of_getElem? (i := 162) rfl)) rfl
theorem ml_L_60 : Cond.methodLink RL 60 yX6_member ∈ wL := wL_of (tb_2 _ (List.mem_of_getElem? (i := 163) rfl)) rfl
theorem im_X6_member : Cond.instanceMethod yX6_member ∈ wL := wL_of (tb_2 _ (List.mem_of_getElem? (i := 164) rfl)) rfl
theorem se_X6_member : Cond.selects RX6 yX6_member yX6_member ∈ wL := wL_of (tb_2 _ (List.mem_of_getElem? (i := 165) rfl)) rfl
theorem co_X6_member : Cond.code yX6_member cX6_member 4 (some .int) ∈ wL := wL_of (tb_2 _ (List.mem_of_getElem? (i := 166) rfl)) rfl
theorem im_X3_letter : Cond.instanceMethod yX3_letter ∈ wL := wL_of (tb_2 _ (List.mem_of_getElem? (i := 170) rfl)) rfl
theorem co_X3_letter : Cond.code yX3_letter cX3_letter 3 (some .int) ∈ wL := wL_of (tb_2 _ (List.mem_of_getElem? (i := 171) rfl)) rfl
theorem ml_L_113 : Cond.methodLink RL 113 yL_isRead ∈ wL := wL_of (tb_2 _ (List.mem_of_getElem? (i := 174) rfl)) rfl
theorem st_L_isRead : Cond.static yL_isRead ∈ wL := wL_of (tb_2 _ (List.mem_of_getElem? (i := 175) rfl)) rfl
theorem co_L_isRead : Cond.code yL_isRead cL_isRead 12 (some .boolean) ∈ wL := wL_of (tb_2 _ (List.mem_of_getElem? (i := 176) rfl)) rfl
theorem ml_L_63 : Cond.methodLink RL 63 yX6_readings ∈ wL := wL_of (tb_2 _ (List.mem_of_getElem? (i := 177) rfl)) rfl
theorem im_X6_readings : Cond.instanceMethod yX6_readings ∈ wL := wL_of (tb_2 _ (List.mem_of_getElem? (i := 178) rfl)) rfl
theorem se_X6_readings : Cond.selects RX6 yX6_readings yX6_readings ∈ wL := wL_of (tb_2 _ (List.mem_of_getElem? (i := 179) rfl)) rfl
theorem co_X6_readings : Cond.code yX6_readings cX6_readings 1 (some .int) ∈ wL := wL_of (tb_2 _ (List.mem_of_getElem? (i := 180) rfl)) rfl
theorem im_X5_learn : Cond.instanceMethod yX5_learn ∈ wL := wL_of (tb_2 _ (List.mem_of_getElem? (i := 183) rfl)) rfl
theorem co_X5_learn : Cond.code yX5_learn cX5_learn 3 none ∈ wL := wL_of (tb_2 _ (List.mem_of_getElem? (i := 184) rfl)) rfl
theorem ml_X5_35 : Cond.methodLink RX5 35 yX5_findEnds ∈ wL := wL_of (tb_2 _ (List.mem_of_getElem? (i := 185) rfl)) rfl
theorem im_X5_findEnds : Cond.instanceMethod yX5_findEnds ∈ wL := wL_of (tb_2 _ (List.mem_of_getElem? (i := 187) rfl)) rfl
theorem co_X5_findEnds : Cond.code yX5_findEnds cX5_findEnds 5 none ∈ wL := wL_of (tb_2 _ (List.mem_of_getElem? (i := 188) rfl)) rfl
theorem im_X1_tallies : Cond.instanceMethod yX1_tallies ∈ wL := wL_of (tb_2 _ (List.mem_of_getElem? (i := 191) rfl)) rfl
theorem co_X1_tallies : Cond.code yX1_tallies cX1_tallies 1 (some .int) ∈ wL := wL_of (tb_2 _ (List.mem_of_getElem? (i := 192) rfl)) rfl
theorem ml_X5_59 : Cond.methodLink RX5 59 yX5_endOf ∈ wL := wL_of (tb_2 _ (List.mem_of_getElem? (i := 193) rfl)) rfl
theorem im_X5_endOf : Cond.instanceMethod yX5_endOf ∈ wL := wL_of (tb_2 _ (List.mem_of_getElem? (i := 195) rfl)) rfl
theorem co_X5_endOf : Cond.code yX5_endOf cX5_endOf 2 (some .int) ∈ wL := wL_of (tb_2 _ (List.mem_of_getElem? (i := 196) rfl)) rfl
theorem ml_X5_63 : Cond.methodLink RX5 63 yX5_findSteps ∈ wL := wL_of (tb_2 _ (List.mem_of_getElem? (i := 197) rfl)) rfl
theorem im_X5_findSteps : Cond.instanceMethod yX5_findSteps ∈ wL := wL_of (tb_2 _ (List.mem_of_getElem? (i := 199) rfl)) rfl
theorem co_X5_findSteps : Cond.code yX5_findSteps cX5_findSteps 10 (some .int) ∈ wL := wL_of (tb_2 _ (List.mem_of_getElem? (i := 200) rfl)) rfl
theorem ml_X5_67 : Cond.methodLink RX5 67 yX5_startBehind ∈ wL := wL_of (tb_2 _ (List.mem_of_getElem? (i := 201) rfl)) rfl
theorem im_X5_startBehind : Cond.instanceMethod yX5_startBehind ∈ wL := wL_of (tb_2 _ (List.mem_of_getElem? (i := 203) rfl)) rfl
theorem co_X5_startBehind : Cond.code yX5_startBehind cX5_startBehind 5 (some .int) ∈ wL := wL_of (tb_2 _ (List.mem_of_getElem? (i := 204) rfl)) rfl
theorem im_X1_followers : Cond.instanceMethod yX1_followers ∈ wL := wL_of (tb_2 _ (List.mem_of_getElem? (i := 208) rfl)) rfl
theorem co_X1_followers : Cond.code yX1_followers cX1_followers 5 (some .int) ∈ wL := wL_of (tb_2 _ (List.mem_of_getElem? (i := 209) rfl)) rfl
theorem ml_X1_87 : Cond.methodLink RX1 87 yX1_presentIn ∈ wL := wL_of (tb_2 _ (List.mem_of_getElem? (i := 210) rfl)) rfl
theorem im_X1_presentIn : Cond.instanceMethod yX1_presentIn ∈ wL := wL_of (tb_2 _ (List.mem_of_getElem? (i := 212) rfl)) rfl
theorem co_X1_presentIn : Cond.code yX1_presentIn cX1_presentIn 4 (some .int) ∈ wL := wL_of (tb_2 _ (List.mem_of_getElem? (i := 213) rfl)) rfl
theorem st_X6_timesIn : Cond.static yX6_timesIn ∈ wL := wL_of (tb_2 _ (List.mem_of_getElem? (i := 215) rfl)) rfl
theorem co_X6_timesIn : Cond.code yX6_timesIn cX6_timesIn 2 (some .int) ∈ wL := wL_of (tb_2 _ (List.mem_of_getElem? (i := 216) rfl)) rfl
theorem im_X0_endOf : Cond.instanceMethod yX0_endOf ∈ wL := wL_of (tb_2 _ (List.mem_of_getElem? (i := 221) rfl)) rfl
theorem co_X0_endOf : Cond.code yX0_endOf cX0_endOf 5 (some .int) ∈ wL := wL_of (tb_2 _ (List.mem_of_getElem? (i := 222) rfl)) rfl
theorem ml_X0_39 : Cond.methodLink RX0 39 yX0_lettersMatched ∈ wL := wL_of (tb_2 _ (List.mem_of_getElem? (i := 224) rfl)) rfl
theorem im_X0_lettersMatched : Cond.instanceMethod yX0_lettersMatched ∈ wL := wL_of (tb_2 _ (List.mem_of_getElem? (i := 226) rfl)) rfl
theorem co_X0_lettersMatched : Cond.code yX0_lettersMatched cX0_lettersMatched 4 (some .int) ∈ wL := wL_of (tb_2 _ (List.mem_of_getElem? (i := 227) rfl)) rfl
theorem ml_X0_46 : Cond.methodLink RX0 46 yX0_digitsFrom ∈ wL := wL_of (tb_2 _ (List.mem_of_getElem? (i := 229) rfl)) rfl
theorem im_X0_digitsFrom : Cond.instanceMethod yX0_digitsFrom ∈ wL := wL_of (tb_2 _ (List.mem_of_getElem? (i := 231) rfl)) rfl
theorem co_X0_digitsFrom : Cond.code yX0_digitsFrom cX0_digitsFrom 3 (some .int) ∈ wL := wL_of (tb_2 _ (List.mem_of_getElem? (i := 232) rfl)) rfl
theorem st_X6_isDigit : Cond.static yX6_isDigit ∈ wL := wL_of (tb_2 _ (List.mem_of_getElem? (i := 234) rfl)) rfl
theorem co_X6_isDigit : Cond.code yX6_isDigit cX6_isDigit 1 (some .boolean) ∈ wL := wL_of (tb_2 _ (List.mem_of_getElem? (i := 235) rfl)) rfl
theorem st_X6_isCapital : Cond.static yX6_isCapital ∈ wL := wL_of (tb_2 _ (List.mem_of_getElem? (i := 237) rfl)) rfl
theorem co_X6_isCapital : Cond.code yX6_isCapital cX6_isCapital 1 (some .boolean) ∈ wL := wL_of (tb_2 _ (List.mem_of_getElem? (i := 238) rfl)) rfl
theorem st_X6_withOneMore : Cond.static yX6_withOneMore ∈ wL := wL_of (tb_3 _ (List.mem_of_getElem? (i := 0) rfl)) rfl
theorem co_X6_withOneMore : Cond.code yX6_withOneMore cX6_withOneMore 2 (some .int) ∈ wL := wL_of (tb_3 _ (List.mem_of_getElem? (i := 1) rfl)) rfl
theorem ml_X5_39 : Cond.methodLink RX5 39 yX5_countWays ∈ wL := wL_of (tb_3 _ (List.mem_of_getElem? (i := 2) rfl)) rfl
theorem im_X5_countWays : Cond.instanceMethod yX5_countWays ∈ wL := wL_of (tb_3 _ (List.mem_of_getElem? (i := 4) rfl)) rfl
theorem co_X5_countWays : Cond.code yX5_countWays cX5_countWays 4 none ∈ wL := wL_of (tb_3 _ (List.mem_of_getElem? (i := 5) rfl)) rfl
theorem ml_X5_95 : Cond.methodLink RX5 95 yJ9_min_7cf53 ∈ wL := wL_of (tb_3 _ (List.mem_of_getElem? (i := 6) rfl)) rfl
theorem ml_X5_100 : Cond.methodLink RX5 100 yX5_countFrom ∈ wL := wL_of (tb_3 _ (List.mem_of_getElem? (i := 7) rfl)) rfl
theorem im_X5_countFrom : Cond.instanceMethod yX5_countFrom ∈ wL := wL_of (tb_3 _ (List.mem_of_getElem? (i := 9) rfl)) rfl
theorem co_X5_countFrom : Cond.code yX5_countFrom cX5_countFrom 7 (some .long) ∈ wL := wL_of (tb_3 _ (List.mem_of_getElem? (i := 10) rfl)) rfl
theorem im_X1_isEnough : Cond.instanceMethod yX1_isEnough ∈ wL := wL_of (tb_3 _ (List.mem_of_getElem? (i := 13) rfl)) rfl
theorem co_X1_isEnough : Cond.code yX1_isEnough cX1_isEnough 3 (some .boolean) ∈ wL := wL_of (tb_3 _ (List.mem_of_getElem? (i := 14) rfl)) rfl
theorem ml_X5_111 : Cond.methodLink RX5 111 yX5_stepsFrom ∈ wL := wL_of (tb_3 _ (List.mem_of_getElem? (i := 15) rfl)) rfl
theorem im_X5_stepsFrom : Cond.instanceMethod yX5_stepsFrom ∈ wL := wL_of (tb_3 _ (List.mem_of_getElem? (i := 17) rfl)) rfl
theorem co_X5_stepsFrom : Cond.code yX5_stepsFrom cX5_stepsFrom 2 (some .int) ∈ wL := wL_of (tb_3 _ (List.mem_of_getElem? (i := 18) rfl)) rfl
theorem ml_X5_45 : Cond.methodLink RX5 45 yX5_waysFrom ∈ wL := wL_of (tb_3 _ (List.mem_of_getElem? (i := 19) rfl)) rfl
theorem im_X5_waysFrom : Cond.instanceMethod yX5_waysFrom ∈ wL := wL_of (tb_3 _ (List.mem_of_getElem? (i := 21) rfl)) rfl
theorem co_X5_waysFrom : Cond.code yX5_waysFrom cX5_waysFrom 2 (some .long) ∈ wL := wL_of (tb_3 _ (List.mem_of_getElem? (i := 22) rfl)) rfl
theorem ml_X5_42 : Cond.methodLink RX5 42 yX5_listFirst ∈ wL := wL_of (tb_3 _ (List.mem_of_getElem? (i := 23) rfl)) rfl
theorem im_X5_listFirst : Cond.instanceMethod yX5_listFirst ∈ wL := wL_of (tb_3 _ (List.mem_of_getElem? (i := 25) rfl)) rfl
theorem co_X5_listFirst : Cond.code yX5_listFirst cX5_listFirst 7 none ∈ wL := wL_of (tb_3 _ (List.mem_of_getElem? (i := 26) rfl)) rfl
theorem ml_X5_114 : Cond.methodLink RX5 114 yX5_firstBehind ∈ wL := wL_of (tb_3 _ (List.mem_of_getElem? (i := 27) rfl)) rfl
theorem im_X5_firstBehind : Cond.instanceMethod yX5_firstBehind ∈ wL := wL_of (tb_3 _ (List.mem_of_getElem? (i := 29) rfl)) rfl
theorem co_X5_firstBehind : Cond.code yX5_firstBehind cX5_firstBehind 4 (some .int) ∈ wL := wL_of (tb_3 _ (List.mem_of_getElem? (i := 30) rfl)) rfl
theorem im_X0_numberIn : Cond.instanceMethod yX0_numberIn ∈ wL := wL_of (tb_3 _ (List.mem_of_getElem? (i := 33) rfl)) rfl
theorem co_X0_numberIn : Cond.code yX0_numberIn cX0_numberIn 7 (some .int) ∈ wL := wL_of (tb_3 _ (List.mem_of_getElem? (i := 34) rfl)) rfl
theorem cl_X6_180 : Cond.constantLong RX6 180 (1000000) ∈ wL := wL_of (tb_3 _ (List.mem_of_getElem? (i := 36) rfl)) rfl
theorem ml_X6_182 : Cond.methodLink RX6 182 yJ9_min_f86c9 ∈ wL := wL_of (tb_3 _ (List.mem_of_getElem? (i := 37) rfl)) rfl
theorem st_J9_min_f86c9 : Cond.static yJ9_min_f86c9 ∈ wL := wL_of (tb_3 _ (List.mem_of_getElem? (i := 38) rfl)) rfl
theorem co_J9_min_f86c9 : Cond.code yJ9_min_f86c9 cJ9_min_f86c9 4 (some .long) ∈ wL := wL_of (tb_3 _ (List.mem_of_getElem? (i := 39) rfl)) rfl
theorem ml_L_66 : Cond.methodLink RL 66 yX6_fault ∈ wL := wL_of (tb_3 _ (List.mem_of_getElem? (i := 40) rfl)) rfl
theorem im_X6_fault : Cond.instanceMethod yX6_fault ∈ wL := wL_of (tb_3 _ (List.mem_of_getElem? (i := 41) rfl)) rfl
theorem se_X6_fault : Cond.selects RX6 yX6_fault yX6_fault ∈ wL := wL_of (tb_3 _ (List.mem_of_getElem? (i := 42) rfl)) rfl
theorem co_X6_fault : Cond.code yX6_fault cX6_fault 1 (some .int) ∈ wL := wL_of (tb_3 _ (List.mem_of_getElem? (i := 43) rfl)) rfl
theorem im_X5_exists : Cond.instanceMethod yX5_exists ∈ wL := wL_of (tb_3 _ (List.mem_of_getElem? (i := 46) rfl)) rfl
theorem co_X5_exists : Cond.code yX5_exists cX5_exists 1 (some .boolean) ∈ wL := wL_of (tb_3 _ (List.mem_of_getElem? (i := 47) rfl)) rfl
theorem im_X5_farthest : Cond.instanceMethod yX5_farthest ∈ wL := wL_of (tb_3 _ (List.mem_of_getElem? (i := 50) rfl)) rfl
theorem co_X5_farthest : Cond.code yX5_farthest cX5_farthest 5 (some .int) ∈ wL := wL_of (tb_3 _ (List.mem_of_getElem? (i := 51) rfl)) rfl
theorem ml_X5_122 : Cond.methodLink RX5 122 yX5_farthestBehind ∈ wL := wL_of (tb_3 _ (List.mem_of_getElem? (i := 52) rfl)) rfl
theorem im_X5_farthestBehind : Cond.instanceMethod yX5_farthestBehind ∈ wL := wL_of (tb_3 _ (List.mem_of_getElem? (i := 54) rfl)) rfl
theorem co_X5_farthestBehind : Cond.code yX5_farthestBehind cX5_farthestBehind 8 (some .int) ∈ wL := wL_of (tb_3 _ (List.mem_of_getElem? (i := 55) rfl)) rfl
theorem ml_X5_125 : Cond.methodLink RX5 125 yJ9_max_7cf53 ∈ wL := wL_of (tb_3 _ (List.mem_of_getElem? (i := 57) rfl)) rfl
theorem st_J9_max_7cf53 : Cond.static yJ9_max_7cf53 ∈ wL := wL_of (tb_3 _ (List.mem_of_getElem? (i := 58) rfl)) rfl
theorem co_J9_max_7cf53 : Cond.code yJ9_max_7cf53 cJ9_max_7cf53 2 (some .int) ∈ wL := wL_of (tb_3 _ (List.mem_of_getElem? (i := 59) rfl)) rfl
theorem ml_L_69 : Cond.methodLink RL 69 yX6_occurrence ∈ wL := wL_of (tb_3 _ (List.mem_of_getElem? (i := 60) rfl)) rfl
theorem im_X6_occurrence : Cond.instanceMethod yX6_occurrence ∈ wL := wL_of (tb_3 _ (List.mem_of_getElem? (i := 61) rfl)) rfl
theorem se_X6_occurrence : Cond.selects RX6 yX6_occurrence yX6_occurrence ∈ wL := wL_of (tb_3 _ (List.mem_of_getElem? (i := 62) rfl)) rfl
theorem co_X6_occurrence : Cond.code yX6_occurrence cX6_occurrence 3 (some .int) ∈ wL := wL_of (tb_3 _ (List.mem_of_getElem? (i := 63) rfl)) rfl
theorem im_X5_memberAt : Cond.instanceMethod yX5_memberAt ∈ wL := wL_of (tb_3 _ (List.mem_of_getElem? (i := 66) rfl)) rfl
theorem co_X5_memberAt : Cond.code yX5_memberAt cX5_memberAt 2 (some .int) ∈ wL := wL_of (tb_3 _ (List.mem_of_getElem? (i := 67) rfl)) rfl
theorem im_X5_startAt : Cond.instanceMethod yX5_startAt ∈ wL := wL_of (tb_3 _ (List.mem_of_getElem? (i := 70) rfl)) rfl
theorem co_X5_startAt : Cond.code yX5_startAt cX5_startAt 2 (some .int) ∈ wL := wL_of (tb_3 _ (List.mem_of_getElem? (i := 71) rfl)) rfl
theorem im_X5_numberAt : Cond.instanceMethod yX5_numberAt ∈ wL := wL_of (tb_3 _ (List.mem_of_getElem? (i := 74) rfl)) rfl
theorem co_X5_numberAt : Cond.code yX5_numberAt cX5_numberAt 2 (some .int) ∈ wL := wL_of (tb_3 _ (List.mem_of_getElem? (i := 75) rfl)) rfl
theorem ml_L_72 : Cond.methodLink RL 72 yX6_rank ∈ wL := wL_of (tb_3 _ (List.mem_of_getElem? (i := 76) rfl)) rfl
theorem im_X6_rank : Cond.instanceMethod yX6_rank ∈ wL := wL_of (tb_3 _ (List.mem_of_getElem? (i := 77) rfl)) rfl
theorem se_X6_rank : Cond.selects RX6 yX6_rank yX6_rank ∈ wL := wL_of (tb_3 _ (List.mem_of_getElem? (i := 78) rfl)) rfl
theorem co_X6_rank : Cond.code yX6_rank cX6_rank 1 (some .long) ∈ wL := wL_of (tb_3 _ (List.mem_of_getElem? (i := 79) rfl)) rfl
theorem cl_X6_225 : Cond.constantLong RX6 225 (-2) ∈ wL := wL_of (tb_3 _ (List.mem_of_getElem? (i := 80) rfl)) rfl
theorem im_X4_learn : Cond.instanceMethod yX4_learn ∈ wL := wL_of (tb_3 _ (List.mem_of_getElem? (i := 83) rfl)) rfl
theorem co_X4_learn : Cond.code yX4_learn cX4_learn 7 none ∈ wL := wL_of (tb_3 _ (List.mem_of_getElem? (i := 84) rfl)) rfl
theorem ml_X4_25 : Cond.methodLink RX4 25 yJ9_min_7cf53 ∈ wL := wL_of (tb_3 _ (List.mem_of_getElem? (i := 86) rfl)) rfl
theorem im_X1_lengthOf : Cond.instanceMethod yX1_lengthOf ∈ wL := wL_of (tb_3 _ (List.mem_of_getElem? (i := 89) rfl)) rfl
theorem co_X1_lengthOf : Cond.code yX1_lengthOf cX1_lengthOf 4 (some .int) ∈ wL := wL_of (tb_3 _ (List.mem_of_getElem? (i := 90) rfl)) rfl
theorem ml_X4_42 : Cond.methodLink RX4 42 yX4_countBehind ∈ wL := wL_of (tb_3 _ (List.mem_of_getElem? (i := 92) rfl)) rfl
theorem im_X4_countBehind : Cond.instanceMethod yX4_countBehind ∈ wL := wL_of (tb_3 _ (List.mem_of_getElem? (i := 94) rfl)) rfl
theorem co_X4_countBehind : Cond.code yX4_countBehind cX4_countBehind 8 (some .long) ∈ wL := wL_of (tb_3 _ (List.mem_of_getElem? (i := 95) rfl)) rfl
theorem ml_X4_55 : Cond.methodLink RX4 55 yX4_countFrom ∈ wL := wL_of (tb_3 _ (List.mem_of_getElem? (i := 99) rfl)) rfl
theorem im_X4_countFrom : Cond.instanceMethod yX4_countFrom ∈ wL := wL_of (tb_3 _ (List.mem_of_getElem? (i := 101) rfl)) rfl
theorem co_X4_countFrom : Cond.code yX4_countFrom cX4_countFrom 2 (some .long) ∈ wL := wL_of (tb_3 _ (List.mem_of_getElem? (i := 102) rfl)) rfl
theorem im_X4_numberOf : Cond.instanceMethod yX4_numberOf ∈ wL := wL_of (tb_3 _ (List.mem_of_getElem? (i := 105) rfl)) rfl
theorem co_X4_numberOf : Cond.code yX4_numberOf cX4_numberOf 7 (some .long) ∈ wL := wL_of (tb_3 _ (List.mem_of_getElem? (i := 106) rfl)) rfl
theorem cl_L_76 : Cond.constantLong RL 76 (-2) ∈ wL := wL_of (tb_3 _ (List.mem_of_getElem? (i := 108) rfl)) rfl
theorem ml_L_78 : Cond.methodLink RL 78 yX6_normal ∈ wL := wL_of (tb_3 _ (List.mem_of_getElem? (i := 109) rfl)) rfl
theorem im_X6_normal : Cond.instanceMethod yX6_normal ∈ wL := wL_of (tb_3 _ (List.mem_of_getElem? (i := 110) rfl)) rfl
theorem se_X6_normal : Cond.selects RX6 yX6_normal yX6_normal ∈ wL := wL_of (tb_3 _ (List.mem_of_getElem? (i := 111) rfl)) rfl
theorem co_X6_normal : Cond.code yX6_normal cX6_normal 2 (some .int) ∈ wL := wL_of (tb_3 _ (List.mem_of_getElem? (i := 112) rfl)) rfl
theorem ml_X6_204 : Cond.methodLink RX6 204 yX6_formNormal ∈ wL := wL_of (tb_3 _ (List.mem_of_getElem? (i := 113) rfl)) rfl
theorem im_X6_formNormal : Cond.instanceMethod yX6_formNormal ∈ wL := wL_of (tb_3 _ (List.mem_of_getElem? (i := 115) rfl)) rfl
theorem co_X6_formNormal : Cond.code yX6_formNormal cX6_formNormal 3 none ∈ wL := wL_of (tb_3 _ (List.mem_of_getElem? (i := 116) rfl)) rfl
theorem im_X0_appendOccurrence : Cond.instanceMethod yX0_appendOccurrence ∈ wL := wL_of (tb_3 _ (List.mem_of_getElem? (i := 119) rfl)) rfl
theorem co_X0_appendOccurrence : Cond.code yX0_appendOccurrence cX0_appendOccurrence 4 none ∈ wL := wL_of (tb_3 _ (List.mem_of_getElem? (i := 120) rfl)) rfl
theorem ml_X0_52 : Cond.methodLink RX0 52 yX0_append ∈ wL := wL_of (tb_3 _ (List.mem_of_getElem? (i := 121) rfl)) rfl
theorem ml_X0_55 : Cond.methodLink RX0 55 yX0_appendNumber ∈ wL := wL_of (tb_3 _ (List.mem_of_getElem? (i := 122) rfl)) rfl
theorem im_X0_appendNumber : Cond.instanceMethod yX0_appendNumber ∈ wL := wL_of (tb_3 _ (List.mem_of_getElem? (i := 124) rfl)) rfl
theorem co_X0_appendNumber : Cond.code yX0_appendNumber cX0_appendNumber 2 none ∈ wL := wL_of (tb_3 _ (List.mem_of_getElem? (i := 125) rfl)) rfl
theorem ml_L_81 : Cond.methodLink RL 81 yX6_order ∈ wL := wL_of (tb_3 _ (List.mem_of_getElem? (i := 127) rfl)) rfl
theorem im_X6_order : Cond.instanceMethod yX6_order ∈ wL := wL_of (tb_3 _ (List.mem_of_getElem? (i := 128) rfl)) rfl
theorem se_X6_order : Cond.selects RX6 yX6_order yX6_order ∈ wL := wL_of (tb_3 _ (List.mem_of_getElem? (i := 129) rfl)) rfl
theorem co_X6_order : Cond.code yX6_order cX6_order 4 (some .int) ∈ wL := wL_of (tb_3 _ (List.mem_of_getElem? (i := 130) rfl)) rfl
theorem im_X4_memberOf : Cond.instanceMethod yX4_memberOf ∈ wL := wL_of (tb_3 _ (List.mem_of_getElem? (i := 133) rfl)) rfl
theorem co_X4_memberOf : Cond.code yX4_memberOf cX4_memberOf 10 (some .int) ∈ wL := wL_of (tb_3 _ (List.mem_of_getElem? (i := 134) rfl)) rfl
theorem ml_X4_59 : Cond.methodLink RX4 59 yX4_memberBehind ∈ wL := wL_of (tb_3 _ (List.mem_of_getElem? (i := 135) rfl)) rfl
theorem im_X4_memberBehind : Cond.instanceMethod yX4_memberBehind ∈ wL := wL_of (tb_3 _ (List.mem_of_getElem? (i := 137) rfl)) rfl
theorem co_X4_memberBehind : Cond.code yX4_memberBehind cX4_memberBehind 6 (some .int) ∈ wL := wL_of (tb_3 _ (List.mem_of_getElem? (i := 138) rfl)) rfl
theorem ml_L_85 : Cond.methodLink RL 85 yX6_value ∈ wL := wL_of (tb_3 _ (List.mem_of_getElem? (i := 139) rfl)) rfl
theorem im_X6_value : Cond.instanceMethod yX6_value ∈ wL := wL_of (tb_3 _ (List.mem_of_getElem? (i := 140) rfl)) rfl
theorem se_X6_value : Cond.selects RX6 yX6_value yX6_value ∈ wL := wL_of (tb_3 _ (List.mem_of_getElem? (i := 141) rfl)) rfl
theorem co_X6_value : Cond.code yX6_value cX6_value 5 (some .int) ∈ wL := wL_of (tb_3 _ (List.mem_of_getElem? (i := 142) rfl)) rfl
theorem ml_L_88 : Cond.methodLink RL 88 yX6_orders ∈ wL := wL_of (tb_3 _ (List.mem_of_getElem? (i := 143) rfl)) rfl
theorem im_X6_orders : Cond.instanceMethod yX6_orders ∈ wL := wL_of (tb_3 _ (List.mem_of_getElem? (i := 144) rfl)) rfl
theorem se_X6_orders : Cond.selects RX6 yX6_orders yX6_orders ∈ wL := wL_of (tb_3 _ (List.mem_of_getElem? (i := 145) rfl)) rfl
theorem co_X6_orders : Cond.code yX6_orders cX6_orders 2 (some .long) ∈ wL := wL_of (tb_3 _ (List.mem_of_getElem? (i := 146) rfl)) rfl
theorem cl_X6_213 : Cond.constantLong RX6 213 (-1) ∈ wL := wL_of (tb_3 _ (List.mem_of_getElem? (i := 147) rfl)) rfl
theorem ml_L_116 : Cond.methodLink RL 116 yL_isFollowed ∈ wL := wL_of (tb_3 _ (List.mem_of_getElem? (i := 149) rfl)) rfl
theorem st_L_isFollowed : Cond.static yL_isFollowed ∈ wL := wL_of (tb_3 _ (List.mem_of_getElem? (i := 150) rfl)) rfl
theorem co_L_isFollowed : Cond.code yL_isFollowed cL_isFollowed 3 (some .boolean) ∈ wL := wL_of (tb_3 _ (List.mem_of_getElem? (i := 151) rfl)) rfl
theorem ml_L_92 : Cond.methodLink RL 92 yX6_next ∈ wL := wL_of (tb_3 _ (List.mem_of_getElem? (i := 152) rfl)) rfl
theorem im_X6_next : Cond.instanceMethod yX6_next ∈ wL := wL_of (tb_3 _ (List.mem_of_getElem? (i := 153) rfl)) rfl
theorem se_X6_next : Cond.selects RX6 yX6_next yX6_next ∈ wL := wL_of (tb_3 _ (List.mem_of_getElem? (i := 154) rfl)) rfl
theorem co_X6_next : Cond.code yX6_next cX6_next 1 (some .int) ∈ wL := wL_of (tb_3 _ (List.mem_of_getElem? (i := 155) rfl)) rfl
theorem im_X5_membersGoingOn : Cond.instanceMethod yX5_membersGoingOn ∈ wL := wL_of (tb_3 _ (List.mem_of_getElem? (i := 158) rfl)) rfl
theorem co_X5_membersGoingOn : Cond.code yX5_membersGoingOn cX5_membersGoingOn 6 (some .int) ∈ wL := wL_of (tb_3 _ (List.mem_of_getElem? (i := 159) rfl)) rfl
theorem ml_L_106 : Cond.methodLink RL 106 yL_areOrders ∈ wL := wL_of (tb_3 _ (List.mem_of_getElem? (i := 160) rfl)) rfl
theorem st_L_areOrders : Cond.static yL_areOrders ∈ wL := wL_of (tb_3 _ (List.mem_of_getElem? (i := 161) rfl)) rfl
theorem co_L_areOrders : Cond.code yL_areOrders cL_areOrders 4 (some .boolean) ∈ wL := wL_of (tb_3 _ (List.mem_of_getElem? (i := 162) rfl)) rfl
theorem cl_L_95 : Cond.constantLong RL 95 (-1) ∈ wL := wL_of (tb_3 _ (List.mem_of_getElem? (i := 163) rfl)) rfl
theorem ml_L_119 : Cond.methodLink RL 119 yL_areAlike ∈ wL := wL_of (tb_3 _ (List.mem_of_getElem? (i := 164) rfl)) rfl
theorem st_L_areAlike : Cond.static yL_areAlike ∈ wL := wL_of (tb_3 _ (List.mem_of_getElem? (i := 165) rfl)) rfl
theorem co_L_areAlike : Cond.code yL_areAlike cL_areAlike 5 (some .boolean) ∈ wL := wL_of (tb_3 _ (List.mem_of_getElem? (i := 166) rfl)) rfl
theorem pv_in : ∀ q ∈ lw_privs, Cond.selects q.1.cls q.1 q.1 ∈ lw_tbl := fun q h => List.mem_append_left _ (List.mem_map_of_mem h)
theorem pv_1 : ∀ q ∈ lw_privs_1, q ∈ lw_privs := fun _ h => List.mem_append_left _ h
theorem pv_2 : ∀ q ∈ lw_privs_2, q ∈ lw_privs := fun _ h => List.mem_append_right _ (List.mem_append_left _ h)
theorem pv_3 : ∀ q ∈ lw_privs_3, q ∈ lw_privs := fun _ h => List.mem_append_right _ (List.mem_append_right _ (List.mem_append_left _ h))
theorem pv_4 : ∀ q ∈ lw_privs_4, q ∈ lw_privs := fun _ h => List.mem_append_right _ (List.mem_append_right _ (List.mem_append_right _ (List.mem_append_left _ h)))
theorem pv_5 : ∀ q ∈ lw_privs_5, q ∈ lw_privs := fun _ h => List.mem_append_right _ (List.mem_append_right _ (List.mem_append_right _ (List.mem_append_right _ (h))))
theorem se_X0_clear : Cond.selects RX0 yX0_clear yX0_clear ∈ wL := wL_of (pv_in (yX0_clear, 2) (pv_1 _ (List.mem_of_getElem? (i := 0) rfl))) rfl
theorem se_X5_forget : Cond.selects RX5 yX5_forget yX5_forget ∈ wL := wL_of (pv_in (yX5_forget, 8) (pv_1 _ (List.mem_of_getElem? (i := 1) rfl))) rfl
theorem se_X0_append : Cond.selects RX0 yX0_append yX0_append ∈ wL := wL_of (pv_in (yX0_append, 2) (pv_1 _ (List.mem_of_getElem? (i := 2) rfl))) rfl
theorem se_X0_asWord : Cond.selects RX0 yX0_asWord yX0_asWord ∈ wL := wL_of (pv_in (yX0_asWord, 2) (pv_1 _ (List.mem_of_getElem? (i := 3) rfl))) rfl
theorem se_X0_at : Cond.selects RX0 yX0_at yX0_at ∈ wL := wL_of (pv_in (yX0_at, 2) (pv_1 _ (List.mem_of_getElem? (i := 4) rfl))) rfl
theorem se_X1_hasWord : Cond.selects RX1 yX1_hasWord yX1_hasWord ∈ wL := wL_of (pv_in (yX1_hasWord, 4) (pv_1 _ (List.mem_of_getElem? (i := 5) rfl))) rfl
theorem se_X1_at : Cond.selects RX1 yX1_at yX1_at ∈ wL := wL_of (pv_in (yX1_at, 4) (pv_1 _ (List.mem_of_getElem? (i := 6) rfl))) rfl
theorem se_X6_beginChange : Cond.selects RX6 yX6_beginChange yX6_beginChange ∈ wL := wL_of (pv_in (yX6_beginChange, 8) (pv_1 _ (List.mem_of_getElem? (i := 7) rfl))) rfl
theorem se_X2_record : Cond.selects RX2 yX2_record yX2_record ∈ wL := wL_of (pv_in (yX2_record, 2) (pv_1 _ (List.mem_of_getElem? (i := 8) rfl))) rfl
theorem se_X2_dropOldest : Cond.selects RX2 yX2_dropOldest yX2_dropOldest ∈ wL := wL_of (pv_in (yX2_dropOldest, 2) (pv_1 _ (List.mem_of_getElem? (i := 9) rfl))) rfl
theorem se_X1_copyFrom : Cond.selects RX1 yX1_copyFrom yX1_copyFrom ∈ wL := wL_of (pv_in (yX1_copyFrom, 4) (pv_1 _ (List.mem_of_getElem? (i := 10) rfl))) rfl
theorem se_X3_copyFrom : Cond.selects RX3 yX3_copyFrom yX3_copyFrom ∈ wL := wL_of (pv_in (yX3_copyFrom, 6) (pv_1 _ (List.mem_of_getElem? (i := 11) rfl))) rfl
theorem se_X6_forgetTables : Cond.selects RX6 yX6_forgetTables yX6_forgetTables ∈ wL := wL_of (pv_in (yX6_forgetTables, 8) (pv_1 _ (List.mem_of_getElem? (i := 12) rfl))) rfl
theorem se_X4_forget : Cond.selects RX4 yX4_forget yX4_forget ∈ wL := wL_of (pv_in (yX4_forget, 2) (pv_1 _ (List.mem_of_getElem? (i := 13) rfl))) rfl
theorem se_X1_add : Cond.selects RX1 yX1_add yX1_add ∈ wL := wL_of (pv_in (yX1_add, 4) (pv_1 _ (List.mem_of_getElem? (i := 14) rfl))) rfl
theorem se_X1_has : Cond.selects RX1 yX1_has yX1_has ∈ wL := wL_of (pv_in (yX1_has, 4) (pv_1 _ (List.mem_of_getElem? (i := 15) rfl))) rfl
theorem se_X1_takeOut : Cond.selects RX1 yX1_takeOut yX1_takeOut ∈ wL := wL_of (pv_in (yX1_takeOut, 4) (pv_2 _ (List.mem_of_getElem? (i := 0) rfl))) rfl
theorem se_X1_reseat : Cond.selects RX1 yX1_reseat yX1_reseat ∈ wL := wL_of (pv_in (yX1_reseat, 4) (pv_2 _ (List.mem_of_getElem? (i := 1) rfl))) rfl
theorem se_X3_accepts : Cond.selects RX3 yX3_accepts yX3_accepts ∈ wL := wL_of (pv_in (yX3_accepts, 6) (pv_2 _ (List.mem_of_getElem? (i := 2) rfl))) rfl
theorem se_X3_exchange : Cond.selects RX3 yX3_exchange yX3_exchange ∈ wL := wL_of (pv_in (yX3_exchange, 6) (pv_2 _ (List.mem_of_getElem? (i := 3) rfl))) rfl
theorem se_X3_property : Cond.selects RX3 yX3_property yX3_property ∈ wL := wL_of (pv_in (yX3_property, 6) (pv_2 _ (List.mem_of_getElem? (i := 4) rfl))) rfl
theorem se_X6_isImage : Cond.selects RX6 yX6_isImage yX6_isImage ∈ wL := wL_of (pv_in (yX6_isImage, 8) (pv_2 _ (List.mem_of_getElem? (i := 5) rfl))) rfl
theorem se_X2_restore : Cond.selects RX2 yX2_restore yX2_restore ∈ wL := wL_of (pv_in (yX2_restore, 2) (pv_2 _ (List.mem_of_getElem? (i := 6) rfl))) rfl
theorem se_X1_countRules : Cond.selects RX1 yX1_countRules yX1_countRules ∈ wL := wL_of (pv_in (yX1_countRules, 4) (pv_2 _ (List.mem_of_getElem? (i := 7) rfl))) rfl
theorem se_X1_countClashingPairs : Cond.selects RX1 yX1_countClashingPairs yX1_countClashingPairs ∈ wL := wL_of (pv_in (yX1_countClashingPairs, 4) (pv_2 _ (List.mem_of_getElem? (i := 8) rfl))) rfl
theorem se_X1_clashesOf : Cond.selects RX1 yX1_clashesOf yX1_clashesOf ∈ wL := wL_of (pv_in (yX1_clashesOf, 4) (pv_2 _ (List.mem_of_getElem? (i := 9) rfl))) rfl
theorem se_X3_clashesWith : Cond.selects RX3 yX3_clashesWith yX3_clashesWith ∈ wL := wL_of (pv_in (yX3_clashesWith, 6) (pv_2 _ (List.mem_of_getElem? (i := 10) rfl))) rfl
theorem se_X3_wordLength : Cond.selects RX3 yX3_wordLength yX3_wordLength ∈ wL := wL_of (pv_in (yX3_wordLength, 6) (pv_2 _ (List.mem_of_getElem? (i := 11) rfl))) rfl
theorem se_X1_leastOccurrences : Cond.selects RX1 yX1_leastOccurrences yX1_leastOccurrences ∈ wL := wL_of (pv_in (yX1_leastOccurrences, 4) (pv_2 _ (List.mem_of_getElem? (i := 12) rfl))) rfl
theorem se_X1_mostOccurrences : Cond.selects RX1 yX1_mostOccurrences yX1_mostOccurrences ∈ wL := wL_of (pv_in (yX1_mostOccurrences, 4) (pv_2 _ (List.mem_of_getElem? (i := 13) rfl))) rfl
theorem se_X3_letter : Cond.selects RX3 yX3_letter yX3_letter ∈ wL := wL_of (pv_in (yX3_letter, 6) (pv_2 _ (List.mem_of_getElem? (i := 14) rfl))) rfl
theorem se_X5_learn : Cond.selects RX5 yX5_learn yX5_learn ∈ wL := wL_of (pv_in (yX5_learn, 8) (pv_2 _ (List.mem_of_getElem? (i := 15) rfl))) rfl
theorem se_X5_findEnds : Cond.selects RX5 yX5_findEnds yX5_findEnds ∈ wL := wL_of (pv_in (yX5_findEnds, 8) (pv_3 _ (List.mem_of_getElem? (i := 0) rfl))) rfl
theorem se_X1_tallies : Cond.selects RX1 yX1_tallies yX1_tallies ∈ wL := wL_of (pv_in (yX1_tallies, 4) (pv_3 _ (List.mem_of_getElem? (i := 1) rfl))) rfl
theorem se_X5_endOf : Cond.selects RX5 yX5_endOf yX5_endOf ∈ wL := wL_of (pv_in (yX5_endOf, 8) (pv_3 _ (List.mem_of_getElem? (i := 2) rfl))) rfl
theorem se_X5_findSteps : Cond.selects RX5 yX5_findSteps yX5_findSteps ∈ wL := wL_of (pv_in (yX5_findSteps, 8) (pv_3 _ (List.mem_of_getElem? (i := 3) rfl))) rfl
theorem se_X5_startBehind : Cond.selects RX5 yX5_startBehind yX5_startBehind ∈ wL := wL_of (pv_in (yX5_startBehind, 8) (pv_3 _ (List.mem_of_getElem? (i := 4) rfl))) rfl
theorem se_X1_followers : Cond.selects RX1 yX1_followers yX1_followers ∈ wL := wL_of (pv_in (yX1_followers, 4) (pv_3 _ (List.mem_of_getElem? (i := 5) rfl))) rfl
theorem se_X1_presentIn : Cond.selects RX1 yX1_presentIn yX1_presentIn ∈ wL := wL_of (pv_in (yX1_presentIn, 4) (pv_3 _ (List.mem_of_getElem? (i := 6) rfl))) rfl
theorem se_X0_endOf : Cond.selects RX0 yX0_endOf yX0_endOf ∈ wL := wL_of (pv_in (yX0_endOf, 2) (pv_3 _ (List.mem_of_getElem? (i := 7) rfl))) rfl
theorem se_X0_lettersMatched : Cond.selects RX0 yX0_lettersMatched yX0_lettersMatched ∈ wL := wL_of (pv_in (yX0_lettersMatched, 2) (pv_3 _ (List.mem_of_getElem? (i := 8) rfl))) rfl
theorem se_X0_digitsFrom : Cond.selects RX0 yX0_digitsFrom yX0_digitsFrom ∈ wL := wL_of (pv_in (yX0_digitsFrom, 2) (pv_3 _ (List.mem_of_getElem? (i := 9) rfl))) rfl
theorem se_X5_countWays : Cond.selects RX5 yX5_countWays yX5_countWays ∈ wL := wL_of (pv_in (yX5_countWays, 8) (pv_3 _ (List.mem_of_getElem? (i := 10) rfl))) rfl
theorem se_X5_countFrom : Cond.selects RX5 yX5_countFrom yX5_countFrom ∈ wL := wL_of (pv_in (yX5_countFrom, 8) (pv_3 _ (List.mem_of_getElem? (i := 11) rfl))) rfl
theorem se_X1_isEnough : Cond.selects RX1 yX1_isEnough yX1_isEnough ∈ wL := wL_of (pv_in (yX1_isEnough, 4) (pv_3 _ (List.mem_of_getElem? (i := 12) rfl))) rfl
theorem se_X5_stepsFrom : Cond.selects RX5 yX5_stepsFrom yX5_stepsFrom ∈ wL := wL_of (pv_in (yX5_stepsFrom, 8) (pv_3 _ (List.mem_of_getElem? (i := 13) rfl))) rfl
theorem se_X5_waysFrom : Cond.selects RX5 yX5_waysFrom yX5_waysFrom ∈ wL := wL_of (pv_in (yX5_waysFrom, 8) (pv_3 _ (List.mem_of_getElem? (i := 14) rfl))) rfl
theorem se_X5_listFirst : Cond.selects RX5 yX5_listFirst yX5_listFirst ∈ wL := wL_of (pv_in (yX5_listFirst, 8) (pv_3 _ (List.mem_of_getElem? (i := 15) rfl))) rfl
theorem se_X5_firstBehind : Cond.selects RX5 yX5_firstBehind yX5_firstBehind ∈ wL := wL_of (pv_in (yX5_firstBehind, 8) (pv_4 _ (List.mem_of_getElem? (i := 0) rfl))) rfl
theorem se_X0_numberIn : Cond.selects RX0 yX0_numberIn yX0_numberIn ∈ wL := wL_of (pv_in (yX0_numberIn, 2) (pv_4 _ (List.mem_of_getElem? (i := 1) rfl))) rfl
theorem se_X5_exists : Cond.selects RX5 yX5_exists yX5_exists ∈ wL := wL_of (pv_in (yX5_exists, 8) (pv_4 _ (List.mem_of_getElem? (i := 2) rfl))) rfl
theorem se_X5_farthest : Cond.selects RX5 yX5_farthest yX5_farthest ∈ wL := wL_of (pv_in (yX5_farthest, 8) (pv_4 _ (List.mem_of_getElem? (i := 3) rfl))) rfl
theorem se_X5_farthestBehind : Cond.selects RX5 yX5_farthestBehind yX5_farthestBehind ∈ wL := wL_of (pv_in (yX5_farthestBehind, 8) (pv_4 _ (List.mem_of_getElem? (i := 4) rfl))) rfl
theorem se_X5_memberAt : Cond.selects RX5 yX5_memberAt yX5_memberAt ∈ wL := wL_of (pv_in (yX5_memberAt, 8) (pv_4 _ (List.mem_of_getElem? (i := 5) rfl))) rfl
theorem se_X5_startAt : Cond.selects RX5 yX5_startAt yX5_startAt ∈ wL := wL_of (pv_in (yX5_startAt, 8) (pv_4 _ (List.mem_of_getElem? (i := 6) rfl))) rfl
theorem se_X5_numberAt : Cond.selects RX5 yX5_numberAt yX5_numberAt ∈ wL := wL_of (pv_in (yX5_numberAt, 8) (pv_4 _ (List.mem_of_getElem? (i := 7) rfl))) rfl
theorem se_X4_learn : Cond.selects RX4 yX4_learn yX4_learn ∈ wL := wL_of (pv_in (yX4_learn, 2) (pv_4 _ (List.mem_of_getElem? (i := 8) rfl))) rfl
theorem se_X1_lengthOf : Cond.selects RX1 yX1_lengthOf yX1_lengthOf ∈ wL := wL_of (pv_in (yX1_lengthOf, 4) (pv_4 _ (List.mem_of_getElem? (i := 9) rfl))) rfl
theorem se_X4_countBehind : Cond.selects RX4 yX4_countBehind yX4_countBehind ∈ wL := wL_of (pv_in (yX4_countBehind, 2) (pv_4 _ (List.mem_of_getElem? (i := 10) rfl))) rfl
theorem se_X4_countFrom : Cond.selects RX4 yX4_countFrom yX4_countFrom ∈ wL := wL_of (pv_in (yX4_countFrom, 2) (pv_4 _ (List.mem_of_getElem? (i := 11) rfl))) rfl
theorem se_X4_numberOf : Cond.selects RX4 yX4_numberOf yX4_numberOf ∈ wL := wL_of (pv_in (yX4_numberOf, 2) (pv_4 _ (List.mem_of_getElem? (i := 12) rfl))) rfl
theorem se_X6_formNormal : Cond.selects RX6 yX6_formNormal yX6_formNormal ∈ wL := wL_of (pv_in (yX6_formNormal, 8) (pv_4 _ (List.mem_of_getElem? (i := 13) rfl))) rfl
theorem se_X0_appendOccurrence : Cond.selects RX0 yX0_appendOccurrence yX0_appendOccurrence ∈ wL := wL_of (pv_in (yX0_appendOccurrence, 2) (pv_4 _ (List.mem_of_getElem? (i := 14) rfl))) rfl
theorem se_X0_appendNumber : Cond.selects RX0 yX0_appendNumber yX0_appendNumber ∈ wL := wL_of (pv_in (yX0_appendNumber, 2) (pv_4 _ (List.mem_of_getElem? (i := 15) rfl))) rfl
theorem se_X4_memberOf : Cond.selects RX4 yX4_memberOf yX4_memberOf ∈ wL := wL_of (pv_in (yX4_memberOf, 2) (pv_5 _ (List.mem_of_getElem? (i := 0) rfl))) rfl
theorem se_X4_memberBehind : Cond.selects RX4 yX4_memberBehind yX4_memberBehind ∈ wL := wL_of (pv_in (yX4_memberBehind, 2) (pv_5 _ (List.mem_of_getElem? (i := 1) rfl))) rfl
theorem se_X5_membersGoingOn : Cond.selects RX5 yX5_membersGoingOn yX5_membersGoingOn ∈ wL := wL_of (pv_in (yX5_membersGoingOn, 8) (pv_5 _ (List.mem_of_getElem? (i := 2) rfl))) rfl
theorem im_obj : Cond.instanceMethod objectInit ∈ wL := wL_of (tb_1 _ (List.mem_of_getElem? (i := 16) rfl)) rfl
theorem co_obj : Cond.code objectInit ⟨#[0xb1]⟩ 1 none ∈ wL := wL_of (tb_1 _ (List.mem_of_getElem? (i := 17) rfl)) rfl
theorem good_L : ∀ w ∈ wL, (w.onTables && w.keeps) = true ∨ ∃ ty, w = .arrayClass ty := fun w h => good_of_word (List.mem_filter.mp h).2
theorem inlX0 : ∀ w ∈ wsX00, w ∈ wL := by
  intro w hw
  obtain ⟨k, hk, rfl⟩ := List.mem_map.mp hw
  rw [List.mem_range] at hk
  rcases (show k = 0 ∨ k = 1 by omega) with rfl | rfl
  · exact la_X0_codes
  · exact la_X0_length
theorem inlX1 : ∀ w ∈ wsX10, w ∈ wL := by
  intro w hw
  obtain ⟨k, hk, rfl⟩ := List.mem_map.mp hw
  rw [List.mem_range] at hk
  rcases (show k = 0 ∨ k = 1 ∨ k = 2 ∨ k = 3 by omega) with rfl | rfl | rfl | rfl
  · exact la_X1_members
  · exact la_X1_nobody
  · exact la_X1_count
  · exact la_X1_separator
theorem inlX2 : ∀ w ∈ wsX20, w ∈ wL := by
  intro w hw
  obtain ⟨k, hk, rfl⟩ := List.mem_map.mp hw
  rw [List.mem_range] at hk
  rcases (show k = 0 ∨ k = 1 by omega) with rfl | rfl
  · exact la_X2_states
  · exact la_X2_count
theorem inlX3 : ∀ w ∈ wsX30, w ∈ wL := by
  intro w hw
  obtain ⟨k, hk, rfl⟩ := List.mem_map.mp hw
  rw [List.mem_range] at hk
  rcases (show k = 0 ∨ k = 1 ∨ k = 2 ∨ k = 3 ∨ k = 4 ∨ k = 5 by omega) with rfl | rfl | rfl | rfl | rfl | rfl
  · exact la_X3_word
  · exact la_X3_kind
  · exact la_X3_least
  · exact la_X3_most
  · exact la_X3_fallback
  · exact la_X3_before
theorem inlX4 : ∀ w ∈ wsX40, w ∈ wL := by
  intro w hw
  obtain ⟨k, hk, rfl⟩ := List.mem_map.mp hw
  rw [List.mem_range] at hk
  rcases (show k = 0 ∨ k = 1 by omega) with rfl | rfl
  · exact la_X4_counts
  · exact la_X4_knownLength
theorem inlX5 : ∀ w ∈ wsX50, w ∈ wL := by
  intro w hw
  obtain ⟨k, hk, rfl⟩ := List.mem_map.mp hw
  rw [List.mem_range] at hk
  rcases (show k = 0 ∨ k = 1 ∨ k = 2 ∨ k = 3 ∨ k = 4 ∨ k = 5 ∨ k = 6 ∨ k = 7 by omega) with rfl | rfl | rfl | rfl | rfl | rfl | rfl | rfl
  · exact la_X5_ends
  · exact la_X5_steps
  · exact la_X5_ways
  · exact la_X5_members
  · exact la_X5_starts
  · exact la_X5_numbers
  · exact la_X5_count
  · exact la_X5_known
theorem inlX6 : ∀ w ∈ wsX60, w ∈ wL := by
  intro w hw
  obtain ⟨k, hk, rfl⟩ := List.mem_map.mp hw
  rw [List.mem_range] at hk
  rcases (show k = 0 ∨ k = 1 ∨ k = 2 ∨ k = 3 ∨ k = 4 ∨ k = 5 ∨ k = 6 ∨ k = 7 by omega) with rfl | rfl | rfl | rfl | rfl | rfl | rfl | rfl
  · exact la_X6_text
  · exact la_X6_normalForm
  · exact la_X6_now
  · exact la_X6_history
  · exact la_X6_images
  · exact la_X6_kept
  · exact la_X6_reading
  · exact la_X6_orderTable
def nestW : List Cond := [Cond.methodLinkNest RX6 9 yX0_init "PhraseReader", Cond.fieldLinkNest RX6 62 "PhraseReader$Bytes" "length" "I" "PhraseReader", Cond.fieldLinkNest RX5 104 "PhraseReader$Bytes" "length" "I" "PhraseReader", Cond.methodLinkNest RX6 21 yX1_init "PhraseReader", Cond.methodLinkNest RX1 17 yX3_init "PhraseReader", Cond.fieldLinkNest RX1 37 "PhraseReader$Member" "word" "I" "PhraseReader", Cond.fieldLinkNest RX1 40 "PhraseReader$Member" "kind" "I" "PhraseReader", Cond.fieldLinkNest RX0 43 "PhraseReader$Member" "kind" "I" "PhraseReader", Cond.fieldLinkNest RX1 43 "PhraseReader$Member" "least" "I" "PhraseReader", Cond.fieldLinkNest RX1 46 "PhraseReader$Member" "most" "I" "PhraseReader", Cond.fieldLinkNest RX1 49 "PhraseReader$Member" "fallback" "I" "PhraseReader", Cond.fieldLinkNest RX6 198 "PhraseReader$Member" "fallback" "I" "PhraseReader", Cond.fieldLinkNest RX1 52 "PhraseReader$Member" "before" "I" "PhraseReader", Cond.fieldLinkNest RX6 117 "PhraseReader$Member" "before" "I" "PhraseReader", Cond.fieldLinkNest RX4 39 "PhraseReader$Declarations" "count" "I" "PhraseReader", Cond.fieldLinkNest RX6 79 "PhraseReader$Declarations" "count" "I" "PhraseReader", Cond.fieldLinkNest RX5 73 "PhraseReader$Declarations" "count" "I" "PhraseReader", Cond.fieldLinkNest RX6 114 "PhraseReader$Declarations" "separator" "I" "PhraseReader", Cond.fieldLinkNest RX5 90 "PhraseReader$Declarations" "separator" "I" "PhraseReader", Cond.methodLinkNest RX6 28 yX2_init "PhraseReader", Cond.methodLinkNest RX2 17 yX1_init "PhraseReader", Cond.fieldLinkNest RX6 127 "PhraseReader$History" "count" "I" "PhraseReader", Cond.methodLinkNest RX6 43 yX5_init "PhraseReader", Cond.fieldLinkNest RX4 63 "PhraseReader$Reading" "count" "I" "PhraseReader", Cond.fieldLinkNest RX6 197 "PhraseReader$Reading" "count" "I" "PhraseReader", Cond.methodLinkNest RX6 50 yX4_init "PhraseReader", Cond.methodLinkNest RX6 66 yX0_clear "PhraseReader", Cond.methodLinkNest RX6 59 yX5_forget "PhraseReader", Cond.methodLinkNest RX6 55 yX0_append "PhraseReader", Cond.methodLinkNest RX6 72 yX0_asWord "PhraseReader", Cond.methodLinkNest RX0 23 yX6_isSmallLetter "PhraseReader", Cond.methodLinkNest RX6 76 yX1_hasWord "PhraseReader", Cond.methodLinkNest RX6 135 yX2_record "PhraseReader", Cond.methodLinkNest RX2 25 yX1_copyFrom "PhraseReader", Cond.methodLinkNest RX1 33 yX3_copyFrom "PhraseReader", Cond.methodLinkNest RX6 138 yX4_forget "PhraseReader", Cond.methodLinkNest RX6 85 yX1_add "PhraseReader", Cond.methodLinkNest RX6 89 yX1_has "PhraseReader", Cond.methodLinkNest RX6 92 yX1_takeOut "PhraseReader", Cond.methodLinkNest RX1 59 yX6_withBitMoved "PhraseReader", Cond.methodLinkNest RX1 67 yX6_bitsBelow "PhraseReader", Cond.methodLinkNest RX6 96 yX1_at "PhraseReader", Cond.methodLinkNest RX6 100 yX3_accepts "PhraseReader", Cond.methodLinkNest RX3 44 yX6_isKind "PhraseReader", Cond.methodLinkNest RX6 106 yX3_exchange "PhraseReader", Cond.methodLinkNest RX6 110 yX1_reseat "PhraseReader", Cond.methodLinkNest RX6 234 yX1_copyFrom "PhraseReader", Cond.methodLinkNest RX6 128 yX2_restore "PhraseReader", Cond.methodLinkNest RX6 139 yX1_countRules "PhraseReader", Cond.methodLinkNest RX6 142 yX1_countClashingPairs "PhraseReader", Cond.methodLinkNest RX1 77 yX3_clashesWith "PhraseReader", Cond.methodLinkNest RX3 41 yX6_bitsBelow "PhraseReader", Cond.methodLinkNest RX6 145 yX1_leastOccurrences "PhraseReader", Cond.methodLinkNest RX6 148 yX1_mostOccurrences "PhraseReader", Cond.methodLinkNest RX6 151 yX3_wordLength "PhraseReader", Cond.methodLinkNest RX6 154 yX3_letter "PhraseReader", Cond.methodLinkNest RX6 158 yX1_clashesOf "PhraseReader", Cond.methodLinkNest RX6 161 yX3_property "PhraseReader", Cond.methodLinkNest RX6 164 yX5_learn "PhraseReader", Cond.methodLinkNest RX5 53 yX1_tallies "PhraseReader", Cond.methodLinkNest RX5 93 yX0_at "PhraseReader", Cond.methodLinkNest RX5 70 yX1_followers "PhraseReader", Cond.methodLinkNest RX1 84 yX6_timesIn "PhraseReader", Cond.methodLinkNest RX5 74 yX6_bitOf "PhraseReader", Cond.methodLinkNest RX5 78 yX1_at "PhraseReader", Cond.methodLinkNest RX5 82 yX0_endOf "PhraseReader", Cond.methodLinkNest RX0 27 yX3_wordLength "PhraseReader", Cond.methodLinkNest RX0 33 yX3_letter "PhraseReader", Cond.methodLinkNest RX0 36 yX6_isDigit "PhraseReader", Cond.methodLinkNest RX0 49 yX6_isCapital "PhraseReader", Cond.methodLinkNest RX5 87 yX6_withOneMore "PhraseReader", Cond.methodLinkNest RX5 107 yX1_isEnough "PhraseReader", Cond.methodLinkNest RX5 118 yX0_numberIn "PhraseReader", Cond.methodLinkNest RX6 176 yX5_waysFrom "PhraseReader", Cond.methodLinkNest RX6 168 yX5_exists "PhraseReader", Cond.methodLinkNest RX6 172 yX5_farthest "PhraseReader", Cond.methodLinkNest RX5 128 yX0_lettersMatched "PhraseReader", Cond.methodLinkNest RX6 188 yX5_memberAt "PhraseReader", Cond.methodLinkNest RX6 191 yX5_startAt "PhraseReader", Cond.methodLinkNest RX6 194 yX5_numberAt "PhraseReader", Cond.methodLinkNest RX6 215 yX4_learn "PhraseReader", Cond.methodLinkNest RX4 19 yX1_tallies "PhraseReader", Cond.methodLinkNest RX4 31 yX1_lengthOf "PhraseReader", Cond.methodLinkNest RX4 35 yX1_isEnough "PhraseReader", Cond.methodLinkNest RX4 46 yX1_followers "PhraseReader", Cond.methodLinkNest RX4 49 yX6_bitOf "PhraseReader", Cond.methodLinkNest RX4 52 yX6_withOneMore "PhraseReader", Cond.methodLinkNest RX6 227 yX4_numberOf "PhraseReader", Cond.methodLinkNest RX4 66 yX5_memberAt "PhraseReader", Cond.methodLinkNest RX6 209 yX0_appendOccurrence "PhraseReader", Cond.methodLinkNest RX6 207 yX0_at "PhraseReader", Cond.methodLinkNest RX6 221 yX4_memberOf "PhraseReader", Cond.methodLinkNest RX6 218 yX4_countFrom "PhraseReader", Cond.methodLinkNest RX6 201 yX5_membersGoingOn "PhraseReader"]
theorem nm_X6_9 : Cond.methodLinkNest RX6 9 yX0_init "PhraseReader" ∈ nestW := List.mem_of_getElem? (i := 0) rfl
theorem nf_X6_62 : Cond.fieldLinkNest RX6 62 "PhraseReader$Bytes" "length" "I" "PhraseReader" ∈ nestW := List.mem_of_getElem? (i := 1) rfl
theorem nf_X5_104 : Cond.fieldLinkNest RX5 104 "PhraseReader$Bytes" "length" "I" "PhraseReader" ∈ nestW := List.mem_of_getElem? (i := 2) rfl
theorem nm_X6_21 : Cond.methodLinkNest RX6 21 yX1_init "PhraseReader" ∈ nestW := List.mem_of_getElem? (i := 3) rfl
theorem nm_X1_17 : Cond.methodLinkNest RX1 17 yX3_init "PhraseReader" ∈ nestW := List.mem_of_getElem? (i := 4) rfl
theorem nf_X1_37 : Cond.fieldLinkNest RX1 37 "PhraseReader$Member" "word" "I" "PhraseReader" ∈ nestW := List.mem_of_getElem? (i := 5) rfl
theorem nf_X1_40 : Cond.fieldLinkNest RX1 40 "PhraseReader$Member" "kind" "I" "PhraseReader" ∈ nestW := List.mem_of_getElem? (i := 6) rfl
theorem nf_X0_43 : Cond.fieldLinkNest RX0 43 "PhraseReader$Member" "kind" "I" "PhraseReader" ∈ nestW := List.mem_of_getElem? (i := 7) rfl
theorem nf_X1_43 : Cond.fieldLinkNest RX1 43 "PhraseReader$Member" "least" "I" "PhraseReader" ∈ nestW := List.mem_of_getElem? (i := 8) rfl
theorem nf_X1_46 : Cond.fieldLinkNest RX1 46 "PhraseReader$Member" "most" "I" "PhraseReader" ∈ nestW := List.mem_of_getElem? (i := 9) rfl
theorem nf_X1_49 : Cond.fieldLinkNest RX1 49 "PhraseReader$Member" "fallback" "I" "PhraseReader" ∈ nestW := List.mem_of_getElem? (i := 10) rfl
theorem nf_X6_198 : Cond.fieldLinkNest RX6 198 "PhraseReader$Member" "fallback" "I" "PhraseReader" ∈ nestW := List.mem_of_getElem? (i := 11) rfl
theorem nf_X1_52 : Cond.fieldLinkNest RX1 52 "PhraseReader$Member" "before" "I" "PhraseReader" ∈ nestW := List.mem_of_getElem? (i := 12) rfl
theorem nf_X6_117 : Cond.fieldLinkNest RX6 117 "PhraseReader$Member" "before" "I" "PhraseReader" ∈ nestW := List.mem_of_getElem? (i := 13) rfl
theorem nf_X4_39 : Cond.fieldLinkNest RX4 39 "PhraseReader$Declarations" "count" "I" "PhraseReader" ∈ nestW := List.mem_of_getElem? (i := 14) rfl
theorem nf_X6_79 : Cond.fieldLinkNest RX6 79 "PhraseReader$Declarations" "count" "I" "PhraseReader" ∈ nestW := List.mem_of_getElem? (i := 15) rfl
theorem nf_X5_73 : Cond.fieldLinkNest RX5 73 "PhraseReader$Declarations" "count" "I" "PhraseReader" ∈ nestW := List.mem_of_getElem? (i := 16) rfl
theorem nf_X6_114 : Cond.fieldLinkNest RX6 114 "PhraseReader$Declarations" "separator" "I" "PhraseReader" ∈ nestW := List.mem_of_getElem? (i := 17) rfl
theorem nf_X5_90 : Cond.fieldLinkNest RX5 90 "PhraseReader$Declarations" "separator" "I" "PhraseReader" ∈ nestW := List.mem_of_getElem? (i := 18) rfl
theorem nm_X6_28 : Cond.methodLinkNest RX6 28 yX2_init "PhraseReader" ∈ nestW := List.mem_of_getElem? (i := 19) rfl
theorem nm_X2_17 : Cond.methodLinkNest RX2 17 yX1_init "PhraseReader" ∈ nestW := List.mem_of_getElem? (i := 20) rfl
theorem nf_X6_127 : Cond.fieldLinkNest RX6 127 "PhraseReader$History" "count" "I" "PhraseReader" ∈ nestW := List.mem_of_getElem? (i := 21) rfl
theorem nm_X6_43 : Cond.methodLinkNest RX6 43 yX5_init "PhraseReader" ∈ nestW := List.mem_of_getElem? (i := 22) rfl
theorem nf_X4_63 : Cond.fieldLinkNest RX4 63 "PhraseReader$Reading" "count" "I" "PhraseReader" ∈ nestW := List.mem_of_getElem? (i := 23) rfl
theorem nf_X6_197 : Cond.fieldLinkNest RX6 197 "PhraseReader$Reading" "count" "I" "PhraseReader" ∈ nestW := List.mem_of_getElem? (i := 24) rfl
theorem nm_X6_50 : Cond.methodLinkNest RX6 50 yX4_init "PhraseReader" ∈ nestW := List.mem_of_getElem? (i := 25) rfl
theorem nm_X6_66 : Cond.methodLinkNest RX6 66 yX0_clear "PhraseReader" ∈ nestW := List.mem_of_getElem? (i := 26) rfl
theorem nm_X6_59 : Cond.methodLinkNest RX6 59 yX5_forget "PhraseReader" ∈ nestW := List.mem_of_getElem? (i := 27) rfl
theorem nm_X6_55 : Cond.methodLinkNest RX6 55 yX0_append "PhraseReader" ∈ nestW := List.mem_of_getElem? (i := 28) rfl
theorem nm_X6_72 : Cond.methodLinkNest RX6 72 yX0_asWord "PhraseReader" ∈ nestW := List.mem_of_getElem? (i := 29) rfl
theorem nm_X0_23 : Cond.methodLinkNest RX0 23 yX6_isSmallLetter "PhraseReader" ∈ nestW := List.mem_of_getElem? (i := 30) rfl
theorem nm_X6_76 : Cond.methodLinkNest RX6 76 yX1_hasWord "PhraseReader" ∈ nestW := List.mem_of_getElem? (i := 31) rfl
theorem nm_X6_135 : Cond.methodLinkNest RX6 135 yX2_record "PhraseReader" ∈ nestW := List.mem_of_getElem? (i := 32) rfl
theorem nm_X2_25 : Cond.methodLinkNest RX2 25 yX1_copyFrom "PhraseReader" ∈ nestW := List.mem_of_getElem? (i := 33) rfl
theorem nm_X1_33 : Cond.methodLinkNest RX1 33 yX3_copyFrom "PhraseReader" ∈ nestW := List.mem_of_getElem? (i := 34) rfl
theorem nm_X6_138 : Cond.methodLinkNest RX6 138 yX4_forget "PhraseReader" ∈ nestW := List.mem_of_getElem? (i := 35) rfl
theorem nm_X6_85 : Cond.methodLinkNest RX6 85 yX1_add "PhraseReader" ∈ nestW := List.mem_of_getElem? (i := 36) rfl
theorem nm_X6_89 : Cond.methodLinkNest RX6 89 yX1_has "PhraseReader" ∈ nestW := List.mem_of_getElem? (i := 37) rfl
theorem nm_X6_92 : Cond.methodLinkNest RX6 92 yX1_takeOut "PhraseReader" ∈ nestW := List.mem_of_getElem? (i := 38) rfl
theorem nm_X1_59 : Cond.methodLinkNest RX1 59 yX6_withBitMoved "PhraseReader" ∈ nestW := List.mem_of_getElem? (i := 39) rfl
theorem nm_X1_67 : Cond.methodLinkNest RX1 67 yX6_bitsBelow "PhraseReader" ∈ nestW := List.mem_of_getElem? (i := 40) rfl
theorem nm_X6_96 : Cond.methodLinkNest RX6 96 yX1_at "PhraseReader" ∈ nestW := List.mem_of_getElem? (i := 41) rfl
theorem nm_X6_100 : Cond.methodLinkNest RX6 100 yX3_accepts "PhraseReader" ∈ nestW := List.mem_of_getElem? (i := 42) rfl
theorem nm_X3_44 : Cond.methodLinkNest RX3 44 yX6_isKind "PhraseReader" ∈ nestW := List.mem_of_getElem? (i := 43) rfl
theorem nm_X6_106 : Cond.methodLinkNest RX6 106 yX3_exchange "PhraseReader" ∈ nestW := List.mem_of_getElem? (i := 44) rfl
theorem nm_X6_110 : Cond.methodLinkNest RX6 110 yX1_reseat "PhraseReader" ∈ nestW := List.mem_of_getElem? (i := 45) rfl
theorem nm_X6_234 : Cond.methodLinkNest RX6 234 yX1_copyFrom "PhraseReader" ∈ nestW := List.mem_of_getElem? (i := 46) rfl
theorem nm_X6_128 : Cond.methodLinkNest RX6 128 yX2_restore "PhraseReader" ∈ nestW := List.mem_of_getElem? (i := 47) rfl
theorem nm_X6_139 : Cond.methodLinkNest RX6 139 yX1_countRules "PhraseReader" ∈ nestW := List.mem_of_getElem? (i := 48) rfl
theorem nm_X6_142 : Cond.methodLinkNest RX6 142 yX1_countClashingPairs "PhraseReader" ∈ nestW := List.mem_of_getElem? (i := 49) rfl
theorem nm_X1_77 : Cond.methodLinkNest RX1 77 yX3_clashesWith "PhraseReader" ∈ nestW := List.mem_of_getElem? (i := 50) rfl
theorem nm_X3_41 : Cond.methodLinkNest RX3 41 yX6_bitsBelow "PhraseReader" ∈ nestW := List.mem_of_getElem? (i := 51) rfl
theorem nm_X6_145 : Cond.methodLinkNest RX6 145 yX1_leastOccurrences "PhraseReader" ∈ nestW := List.mem_of_getElem? (i := 52) rfl
theorem nm_X6_148 : Cond.methodLinkNest RX6 148 yX1_mostOccurrences "PhraseReader" ∈ nestW := List.mem_of_getElem? (i := 53) rfl
theorem nm_X6_151 : Cond.methodLinkNest RX6 151 yX3_wordLength "PhraseReader" ∈ nestW := List.mem_of_getElem? (i := 54) rfl
theorem nm_X6_154 : Cond.methodLinkNest RX6 154 yX3_letter "PhraseReader" ∈ nestW := List.mem_of_getElem? (i := 55) rfl
theorem nm_X6_158 : Cond.methodLinkNest RX6 158 yX1_clashesOf "PhraseReader" ∈ nestW := List.mem_of_getElem? (i := 56) rfl
theorem nm_X6_161 : Cond.methodLinkNest RX6 161 yX3_property "PhraseReader" ∈ nestW := List.mem_of_getElem? (i := 57) rfl
theorem nm_X6_164 : Cond.methodLinkNest RX6 164 yX5_learn "PhraseReader" ∈ nestW := List.mem_of_getElem? (i := 58) rfl
theorem nm_X5_53 : Cond.methodLinkNest RX5 53 yX1_tallies "PhraseReader" ∈ nestW := List.mem_of_getElem? (i := 59) rfl
theorem nm_X5_93 : Cond.methodLinkNest RX5 93 yX0_at "PhraseReader" ∈ nestW := List.mem_of_getElem? (i := 60) rfl
theorem nm_X5_70 : Cond.methodLinkNest RX5 70 yX1_followers "PhraseReader" ∈ nestW := List.mem_of_getElem? (i := 61) rfl
theorem nm_X1_84 : Cond.methodLinkNest RX1 84 yX6_timesIn "PhraseReader" ∈ nestW := List.mem_of_getElem? (i := 62) rfl
theorem nm_X5_74 : Cond.methodLinkNest RX5 74 yX6_bitOf "PhraseReader" ∈ nestW := List.mem_of_getElem? (i := 63) rfl
theorem nm_X5_78 : Cond.methodLinkNest RX5 78 yX1_at "PhraseReader" ∈ nestW := List.mem_of_getElem? (i := 64) rfl
theorem nm_X5_82 : Cond.methodLinkNest RX5 82 yX0_endOf "PhraseReader" ∈ nestW := List.mem_of_getElem? (i := 65) rfl
theorem nm_X0_27 : Cond.methodLinkNest RX0 27 yX3_wordLength "PhraseReader" ∈ nestW := List.mem_of_getElem? (i := 66) rfl
theorem nm_X0_33 : Cond.methodLinkNest RX0 33 yX3_letter "PhraseReader" ∈ nestW := List.mem_of_getElem? (i := 67) rfl
theorem nm_X0_36 : Cond.methodLinkNest RX0 36 yX6_isDigit "PhraseReader" ∈ nestW := List.mem_of_getElem? (i := 68) rfl
theorem nm_X0_49 : Cond.methodLinkNest RX0 49 yX6_isCapital "PhraseReader" ∈ nestW := List.mem_of_getElem? (i := 69) rfl
theorem nm_X5_87 : Cond.methodLinkNest RX5 87 yX6_withOneMore "PhraseReader" ∈ nestW := List.mem_of_getElem? (i := 70) rfl
theorem nm_X5_107 : Cond.methodLinkNest RX5 107 yX1_isEnough "PhraseReader" ∈ nestW := List.mem_of_getElem? (i := 71) rfl
theorem nm_X5_118 : Cond.methodLinkNest RX5 118 yX0_numberIn "PhraseReader" ∈ nestW := List.mem_of_getElem? (i := 72) rfl
theorem nm_X6_176 : Cond.methodLinkNest RX6 176 yX5_waysFrom "PhraseReader" ∈ nestW := List.mem_of_getElem? (i := 73) rfl
theorem nm_X6_168 : Cond.methodLinkNest RX6 168 yX5_exists "PhraseReader" ∈ nestW := List.mem_of_getElem? (i := 74) rfl
theorem nm_X6_172 : Cond.methodLinkNest RX6 172 yX5_farthest "PhraseReader" ∈ nestW := List.mem_of_getElem? (i := 75) rfl
theorem nm_X5_128 : Cond.methodLinkNest RX5 128 yX0_lettersMatched "PhraseReader" ∈ nestW := List.mem_of_getElem? (i := 76) rfl
theorem nm_X6_188 : Cond.methodLinkNest RX6 188 yX5_memberAt "PhraseReader" ∈ nestW := List.mem_of_getElem? (i := 77) rfl
theorem nm_X6_191 : Cond.methodLinkNest RX6 191 yX5_startAt "PhraseReader" ∈ nestW := List.mem_of_getElem? (i := 78) rfl
theorem nm_X6_194 : Cond.methodLinkNest RX6 194 yX5_numberAt "PhraseReader" ∈ nestW := List.mem_of_getElem? (i := 79) rfl
theorem nm_X6_215 : Cond.methodLinkNest RX6 215 yX4_learn "PhraseReader" ∈ nestW := List.mem_of_getElem? (i := 80) rfl
theorem nm_X4_19 : Cond.methodLinkNest RX4 19 yX1_tallies "PhraseReader" ∈ nestW := List.mem_of_getElem? (i := 81) rfl
theorem nm_X4_31 : Cond.methodLinkNest RX4 31 yX1_lengthOf "PhraseReader" ∈ nestW := List.mem_of_getElem? (i := 82) rfl
theorem nm_X4_35 : Cond.methodLinkNest RX4 35 yX1_isEnough "PhraseReader" ∈ nestW := List.mem_of_getElem? (i := 83) rfl
theorem nm_X4_46 : Cond.methodLinkNest RX4 46 yX1_followers "PhraseReader" ∈ nestW := List.mem_of_getElem? (i := 84) rfl
theorem nm_X4_49 : Cond.methodLinkNest RX4 49 yX6_bitOf "PhraseReader" ∈ nestW := List.mem_of_getElem? (i := 85) rfl
theorem nm_X4_52 : Cond.methodLinkNest RX4 52 yX6_withOneMore "PhraseReader" ∈ nestW := List.mem_of_getElem? (i := 86) rfl
theorem nm_X6_227 : Cond.methodLinkNest RX6 227 yX4_numberOf "PhraseReader" ∈ nestW := List.mem_of_getElem? (i := 87) rfl
theorem nm_X4_66 : Cond.methodLinkNest RX4 66 yX5_memberAt "PhraseReader" ∈ nestW := List.mem_of_getElem? (i := 88) rfl
theorem nm_X6_209 : Cond.methodLinkNest RX6 209 yX0_appendOccurrence "PhraseReader" ∈ nestW := List.mem_of_getElem? (i := 89) rfl
theorem nm_X6_207 : Cond.methodLinkNest RX6 207 yX0_at "PhraseReader" ∈ nestW := List.mem_of_getElem? (i := 90) rfl
theorem nm_X6_221 : Cond.methodLinkNest RX6 221 yX4_memberOf "PhraseReader" ∈ nestW := List.mem_of_getElem? (i := 91) rfl
theorem nm_X6_218 : Cond.methodLinkNest RX6 218 yX4_countFrom "PhraseReader" ∈ nestW := List.mem_of_getElem? (i := 92) rfl
theorem nm_X6_201 : Cond.methodLinkNest RX6 201 yX5_membersGoingOn "PhraseReader" ∈ nestW := List.mem_of_getElem? (i := 93) rfl
set_option maxRecDepth 20000 in
theorem nestW_in : ∀ w ∈ nestW, w ∈ tables_1 := by
  have h : nestW = ([20, 26, 27, 36, 43, 48, 50, 51, 53, 55, 57, 58, 60, 61, 78, 79, 80, 82, 83, 95, 101, 104, 112, 123, 124, 147, 201, 205, 213, 224, 232, 235, 247, 255, 259, 267, 271, 279, 283, 292, 301, 306, 307, 311, 312, 324, 344, 353, 364, 374, 382, 394, 395, 399, 407, 408, 412, 413, 421, 429, 445, 446, 454, 457, 458, 459, 463, 468, 473, 476, 479, 491, 511, 515, 524, 528, 536, 544, 548, 552, 561, 565, 567, 571, 576, 577, 578, 583, 587, 597, 606, 611, 628, 636] : List Nat).filterMap (fun i => tables_1[i]?) := by decide +kernel
  intro w hw
  rw [h] at hw
  obtain ⟨i, -, hi⟩ := List.mem_filterMap.mp hw
  exact List.mem_of_getElem? hi
def isNest (w : Cond) : Bool := match w with
  | .fieldLinkNest .. => true
  | .methodLinkNest .. => true
  | _ => false
theorem nest_all : nestW.all isNest = true := by decide +kernel
theorem nest_is (w : Cond) (h : w ∈ nestW) : isNest w = true := List.all_eq_true.mp nest_all w h
theorem nest_mv {w : Cond} (hn : isNest w = true) {s U : State} (hW : s.WarmedH U.vm) (h : va_Nw w s) : va_Nw w U := by
  unfold isNest at hn
  split at hn
  · exact va_Nw.warmF hW h
  · exact va_Nw.warmM hW h
  · cases hn
theorem nest_on {w : Cond} (hn : isNest w = true) : w.onTables = true := by
  unfold isNest at hn
  split at hn
  · rfl
  · rfl
  · cases hn
def nestOK (U : State) : Prop := ∀ w ∈ nestW, va_Nw w U
theorem nestOK.moved {s U : State} (hW : s.WarmedH U.vm) (h : nestOK s) : nestOK U := fun w hw => nest_mv (nest_is w hw) hW (h w hw)
theorem nestOK.same {s U : State} (hv : s.vm = U.vm) (h : nestOK s) : nestOK U := fun w hw => va_Nw.same (nest_on (nest_is w hw)) hv (h w hw)

def s_kdL : List Nat := [6, 0, 8, 0, 8, 1, 11, 3, 3, 3, 3, 3, 3, 3, 2, 12, 1, 11, 3, 3, 3, 3, 3, 3, 3, 1, 11, 3, 3, 3, 3, 3, 3, 3, 1, 11, 3, 3, 3, 3, 3, 3, 3, 1, 11, 3, 3, 3, 3, 3, 3, 3, 1, 11, 3, 3, 3, 3, 3, 3, 3, 1, 11, 3, 3, 3, 3, 3, 3, 3, 1, 11, 3, 3, 3, 3, 3, 3, 3, 1, 11, 3, 3, 3, 3, 3, 3, 3, 12, 10, 5, 8, 8, 9, 8, 8, 8, 4, 9, 1, 11, 3, 3, 3, 3, 3, 3, 3, 1, 11, 3, 3, 3, 3, 3, 3, 3]
def s_lnL : List Nat := [0, 0, 60, 0, 60, 0, 6, 0, 0, 0, 0, 0, 0, 0, 0, 8, 0, 6, 0, 0, 0, 0, 0, 0, 0, 0, 6, 0, 0, 0, 0, 0, 0, 0, 0, 6, 0, 0, 0, 0, 0, 0, 0, 0, 6, 0, 0, 0, 0, 0, 0, 0, 0, 6, 0, 0, 0, 0, 0, 0, 0, 0, 6, 0, 0, 0, 0, 0, 0, 0, 0, 6, 0, 0, 0, 0, 0, 0, 0, 0, 6, 0, 0, 0, 0, 0, 0, 0, 2, 2, 0, 4096, 4096, 4096, 18, 18, 18, 0, 4096, 0, 6, 0, 0, 0, 0, 0, 0, 0, 0, 6, 0, 0, 0, 0, 0, 0, 0]
def s_fnL : List (List Nat) := [[1, 3, 5, 14, 88, 89, 90, 97], [2], [], [4], [], [6, 7], [], [], [], [], [], [], [], [], [15], [], [17, 18], [], [], [], [], [], [], [], [], [26, 27], [], [], [], [], [], [], [], [], [35, 36], [], [], [], [], [], [], [], [], [44, 45], [], [], [], [], [], [], [], [], [53, 54], [], [], [], [], [], [], [], [], [62, 63], [], [], [], [], [], [], [], [], [71, 72], [], [], [], [], [], [], [], [], [80, 81], [], [], [], [], [], [], [], [], [], [], [91, 92, 93, 94, 95, 96], [], [], [], [], [], [], [98], [], [100, 101], [], [], [], [], [], [], [], [], [109, 110], [], [], [], [], [], [], [], []]
def s_kd (k : Nat) : Nat := s_kdL.getD k 99
def s_len (k : Nat) : Nat := s_lnL.getD k 0
def s_fin (k j : Nat) : Nat := (s_fnL.getD k []).getD j 999
abbrev Sg : Type := (Nat → Nat → Int32) × (Nat → Nat → Int64) × (Nat → Nat → Nat)
/-- classes' numbers, the array classes' numbers, the first address -/
abbrev s_G : Type := va_G × (Nat → ClassId) × Nat
def upd2 {α : Type} (f : Nat → Nat → α) (k j : Nat) (v : α) : Nat → Nat → α := fun a b => if a = k ∧ b = j then v else f a b
theorem upd2_ne {α : Type} {f : Nat → Nat → α} {k j q : Nat} {v : α} (h : q ≠ k) : upd2 f k j v q = f q := by
  funext b; simp [upd2, h]
theorem upd2_row {α : Type} {f : Nat → Nat → α} {k j : Nat} {v : α} : upd2 f k j v k = fun b => if b = j then v else f k b := by
  funext b; simp [upd2]
def setI (σ : Sg) (k j : Nat) (v : Int32) : Sg := (upd2 σ.1 k j v, σ.2)
def setL (σ : Sg) (k j : Nat) (v : Int64) : Sg := (σ.1, upd2 σ.2.1 k j v, σ.2.2)
def setR (σ : Sg) (k j : Nat) (v : Nat) : Sg := (σ.1, σ.2.1, upd2 σ.2.2 k j v)
def s_cell (G : s_G) (ri : Nat → Int32) (rl : Nat → Int64) (rr : Nat → Nat) (k : Nat) : va_E := match s_kd k with
  | 0 => .inr (0, [.ref (G.2.2 + s_fin k 0), .int (ri 1)])
  | 1 => .inr (1, [.ref (G.2.2 + s_fin k 0), .ref (G.2.2 + s_fin k 1), .int (ri 2), .int (ri 3)])
  | 2 => .inr (2, [.ref (G.2.2 + s_fin k 0), .int (ri 1)])
  | 3 => .inr (3, [.int (ri 0), .int (ri 1), .int (ri 2), .int (ri 3), .int (ri 4), .int (ri 5)])
  | 4 => .inr (4, [.ref (G.2.2 + s_fin k 0), .int (ri 1)])
  | 5 => .inr (5, [.ref (G.2.2 + s_fin k 0), .ref (G.2.2 + s_fin k 1), .ref (G.2.2 + s_fin k 2), .ref (G.2.2 + s_fin k 3), .ref (G.2.2 + s_fin k 4), .ref (G.2.2 + s_fin k 5), .int (ri 6), .int (ri 7)])
  | 6 => .inr (6, [.ref (G.2.2 + s_fin k 0), .ref (G.2.2 + s_fin k 1), .ref (G.2.2 + s_fin k 2), .ref (G.2.2 + s_fin k 3), .ref (G.2.2 + s_fin k 4), .ref (G.2.2 + s_fin k 5), .ref (G.2.2 + s_fin k 6), .ref (G.2.2 + s_fin k 7)])
  | 8 => .inl (G.2.1 8, s_len k, .inl ri)
  | 9 => .inl (G.2.1 9, s_len k, .inr (.inl rl))
  | 10 => .inl (G.2.1 10, s_len k, .inl ri)
  | 11 => .inl (G.2.1 11, s_len k, .inr (.inr (.inr (.inr (fun j => some (G.2.2 + rr j))))))
  | _ => .inl (G.2.1 12, s_len k, .inr (.inr (.inr (.inr (fun j => some (G.2.2 + rr j))))))
abbrev s_cl (G : s_G) (σ : Sg) (k : Nat) : va_E := s_cell G (σ.1 k) (σ.2.1 k) (σ.2.2 k) k
def s_W (G : s_G) (σ : Sg) : va_W := (List.range 117).map (fun k => (G.2.2 + k, s_cl G σ k))
def s_A (s0 : Nat) : Nat → Prop := fun q => s0 ≤ q ∧ q < s0 + 117
def c_A (s0 : Nat) : Nat → Prop := fun q => s0 ≤ q
def s_tys (G : s_G) : List (ClassId × FieldType) := [(G.2.1 8, .int), (G.2.1 9, .long), (G.2.1 10, .boolean), (G.2.1 11, .object "PhraseReader$Member"), (G.2.1 12, .object "PhraseReader$Declarations")]
theorem s_kd_lt {k c : Nat} (h : s_kd k = c) (hc : c < 99) : k < 117 := by
  rcases Nat.lt_or_ge k 117 with q | q
  · exact q
  · exfalso
    have : s_kd k = 99 := by
      unfold s_kd
      rw [List.getD_eq_getElem?_getD, List.getElem?_eq_none (by show 117 ≤ k; exact q)]
      rfl
    omega
theorem s_at0 (G : s_G) (σ : Sg) {k : Nat} (hk : k < 117) : (s_W G σ)[k]? = some (G.2.2 + k, s_cl G σ k) := by
  simp [s_W, hk]
theorem s_at (G : s_G) (σ : Sg) {k c : Nat} (h : s_kd k = c) (hc : c < 99) : (s_W G σ)[k]? = some (G.2.2 + k, s_cl G σ k) := s_at0 G σ (s_kd_lt h hc)
theorem s_D (G : s_G) (σ : Sg) : va_D (s_A G.2.2) (s_W G σ) := by
  have key : ∀ (k : Nat) (q : Nat × va_E), (s_W G σ)[k]? = some q → k < 117 ∧ q.1 = G.2.2 + k := by
    intro k q h
    have hk : k < 117 := by
      have := (List.getElem?_eq_some_iff.mp h).1
      simpa [s_W] using this
    rw [s_at0 G σ hk] at h
    cases h
    exact ⟨hk, rfl⟩
  refine ⟨fun i j p q hi hj hpq => ?_, fun k q hq => ?_⟩
  · have h1 := (key i p hi).2
    have h2 := (key j q hj).2
    omega
  · have h1 := key k q hq
    show G.2.2 ≤ q.1 ∧ q.1 < G.2.2 + 117
    omega
theorem s_set {G : s_G} {σ σ' : Sg} {k : Nat} {e : va_E} (hk : k < 117) (hs : ∀ q, q ≠ k → s_cl G σ' q = s_cl G σ q) (he : s_cl G σ' k = e) : (s_W G σ).set k (G.2.2 + k, e) = s_W G σ' := by
  apply List.ext_getElem?
  intro i
  by_cases hi : i = k
  · subst hi
    rw [List.getElem?_set_self (by simpa [s_W] using hk), s_at0 G σ' hk, he]
  · rw [List.getElem?_set_ne (Ne.symm hi)]
    by_cases hl : i < 117
    · rw [s_at0 G σ hl, s_at0 G σ' hl, hs i hi]
    · rw [List.getElem?_eq_none (by simp [s_W]; omega), List.getElem?_eq_none (by simp [s_W]; omega)]
def s_rok (σ : Sg) : Prop := ∀ k j, j < s_len k → (s_kd k = 11 → s_kd (σ.2.2 k j) = 3) ∧ (s_kd k = 12 → s_kd (σ.2.2 k j) = 1)
theorem s_rokI {σ : Sg} (h : s_rok σ) (k j : Nat) (v : Int32) : s_rok (setI σ k j v) := h
theorem s_rokL {σ : Sg} (h : s_rok σ) (k j : Nat) (v : Int64) : s_rok (setL σ k j v) := h
theorem s_rokR {σ : Sg} (h : s_rok σ) {k : Nat} (j : Nat) {v : Nat} (h1 : s_kd k = 11 → s_kd v = 3) (h2 : s_kd k = 12 → s_kd v = 1) : s_rok (setR σ k j v) := by
  intro a b hb
  show (s_kd a = 11 → s_kd (upd2 σ.2.2 k j v a b) = 3) ∧ (s_kd a = 12 → s_kd (upd2 σ.2.2 k j v a b) = 1)
  unfold upd2
  by_cases q : a = k ∧ b = j
  · rw [if_pos q]; obtain ⟨rfl, rfl⟩ := q; exact ⟨h1, h2⟩
  · rw [if_neg q]; exact h a b hb
/-- the cells hold the picture -/
def s_V (G : s_G) (σ : Sg) (H : Heap) : Prop := va_P G.1 vwCl (s_W G σ) H ∧ s_rok σ
/-- the world stands: cells, frame, kinds of the references -/
def s_St (G : s_G) (σ : Sg) (H0 H : Heap) (locs : List Loc) : Prop := va_P G.1 vwCl (s_W G σ) H ∧ va_S (s_A G.2.2) H0 H locs ∧ s_rok σ
/-- what a method may use all along -/
def s_C (G : s_G) (p : Program) (s : State) (args : Array Value) (m : MethodId) (c : Code) (own : String) (cc : ByteArray) : Prop := p.tables.exec = Jvm.exec ∧ c.code = cc ∧ s.vm.findClass own = some m.cls ∧ (∀ w ∈ wL, w.before args s = true) ∧ va_K G.1 vwCl (s_tys G) s ∧ nestOK s
theorem s_St.v {G : s_G} {σ : Sg} {H0 H : Heap} {locs : List Loc} (S : s_St G σ H0 H locs) : s_V G σ H := ⟨S.1, S.2.2⟩
def s_Pre (G : s_G) (σ : Sg) (U : State) : Prop := va_P G.1 vwCl (s_W G σ) U.heap ∧ s_rok σ ∧ va_K G.1 vwCl (s_tys G) U ∧ nestOK U
def s_B (G : s_G) (σ : Sg) (t : State) : Prop := va_P G.1 vwCl (s_W G σ) t.heap ∧ s_rok σ
abbrev wsU (y : MethodName) (cc : ByteArray) (n : Nat) (ret : Option FieldType) : List Cond := Cond.code y cc n ret :: wL
theorem s_Pre.blind (G : s_G) (σ : Sg) (av : List Value) : FrameBlind (va_Pc av (s_Pre G σ)) := fun a U g mk q => by
  obtain ⟨q0, qP, qR, qK, qN⟩ := q
  exact ⟨q0, qP, qR, va_K.moved (u := U) (U := U.calling g mk a) (Vm.Alike.refl U.vm) qK, nestOK.same (s := U) (U := U.calling g mk a) rfl qN⟩
/-- what a callee is: its words -/
def s_M (y : MethodName) (cc : ByteArray) (n : Nat) (ret : Option FieldType) (np : Nat) : Prop := Cond.code y cc n ret ∈ wL ∧ Cond.initialized y.cls ∈ wL ∧ y.cls ≠ "java/lang/invoke/MethodHandle" ∧ y.cls ≠ "java/lang/invoke/VarHandle" ∧ (parseMethodDescriptor y.desc).map (fun d => d.parameters.length) = some np
theorem good_U {y : MethodName} {cc : ByteArray} {n np : Nat} {ret : Option FieldType} (h : s_M y cc n ret np) : GoodIn wL (wsU y cc n ret) := fun w hw => by
  rcases List.mem_cons.mp hw with rfl | hw
  · exact ⟨h.1, good_L _ h.1⟩
  · exact ⟨hw, good_L _ hw⟩

section BASE
variable {p : Program} {l : Launch} {e : Env} {R : Room} {s : State} {m : MethodId} {args : Array Value} {below : List Frame} {meth : Method} {c : Code} {H H0 : Heap} {locs : List Loc} {cells slots : Nat} {Q : State → Prop}
variable {cc bytes : ByteArray} {pc idx : Nat} {ls : Array Slot} {rest st0 : List Value} {G : s_G} {σ : Sg} {own : String} {k : Nat}

theorem g_X0_0 (C : s_C G p s args m c own cc) (hlink : Cond.fieldLink own idx "PhraseReader$Bytes" "codes" "[I" ∈ wL) (hk : s_kd k = 0) (S : s_St G σ H0 H locs) {q : Nat} (hf : s_fin k 0 = q) (hdg : decode cc pc = .ok (.getfield idx, 3)) (kk : W p l e R s m args below meth c H locs cells slots Q (F0 m (pc + 3) ls (.ref (G.2.2 + q) :: rest))) : W p l e R s m args below meth c H locs cells slots Q (F0 m pc ls (.ref (G.2.2 + k) :: rest)) := by
  subst hf
  have he := s_at G σ hk (by decide)
  rw [s_cl, s_cell, hk] at he
  exact va_get (D := G.1) (cl := vwCl) (C := RX0) (T := TX0) (N := 2) (ci := 0) C.1 C.2.1 C.2.2.2.1 inlX0 C.2.2.1 C.2.2.2.2.1 S.1 k he rfl 0 (by decide) ((C.2.2.2.1 _ hlink)) (fun _ h => h) rfl hdg kk
theorem gn_X0_0 (C : s_C G p s args m c own cc) (hlink : Cond.fieldLinkNest own idx "PhraseReader$Bytes" "codes" "[I" "PhraseReader" ∈ nestW) (hk : s_kd k = 0) (S : s_St G σ H0 H locs) {q : Nat} (hf : s_fin k 0 = q) (hdg : decode cc pc = .ok (.getfield idx, 3)) (kk : W p l e R s m args below meth c H locs cells slots Q (F0 m (pc + 3) ls (.ref (G.2.2 + q) :: rest))) : W p l e R s m args below meth c H locs cells slots Q (F0 m pc ls (.ref (G.2.2 + k) :: rest)) := by
  subst hf
  have he := s_at G σ hk (by decide)
  rw [s_cl, s_cell, hk] at he
  exact va_getN (D := G.1) (cl := vwCl) (C := RX0) (T := TX0) (N := 2) (ci := 0) C.1 C.2.1 C.2.2.2.1 inlX0 C.2.2.1 C.2.2.2.2.1 S.1 k he rfl 0 (by decide) (va_Nw.use (nest_on (nest_is _ hlink)) (C.2.2.2.2.2 _ hlink)) (fun _ h => h) rfl hdg kk
theorem g_X0_1 (C : s_C G p s args m c own cc) (hlink : Cond.fieldLink own idx "PhraseReader$Bytes" "length" "I" ∈ wL) (hk : s_kd k = 0) (S : s_St G σ H0 H locs) (hdg : decode cc pc = .ok (.getfield idx, 3)) (kk : W p l e R s m args below meth c H locs cells slots Q (F0 m (pc + 3) ls (.int (σ.1 k 1) :: rest))) : W p l e R s m args below meth c H locs cells slots Q (F0 m pc ls (.ref (G.2.2 + k) :: rest)) := by
  have he := s_at G σ hk (by decide)
  rw [s_cl, s_cell, hk] at he
  exact va_get (D := G.1) (cl := vwCl) (C := RX0) (T := TX0) (N := 2) (ci := 0) C.1 C.2.1 C.2.2.2.1 inlX0 C.2.2.1 C.2.2.2.2.1 S.1 k he rfl 1 (by decide) ((C.2.2.2.1 _ hlink)) (fun _ h => h) rfl hdg kk
theorem p_X0_1 (C : s_C G p s args m c own cc) (hlink : Cond.fieldLink own idx "PhraseReader$Bytes" "length" "I" ∈ wL) (hk : s_kd k = 0) (S : s_St G σ H0 H locs) {v : Int32} (hdg : decode cc pc = .ok (.putfield idx, 3)) (kk : ∀ (σ1 : Sg) (H1 : Heap) (locs1 : List Loc), σ1 = setI σ k 1 v → s_St G σ1 H0 H1 locs1 → W p l e R s m args below meth c H1 locs1 cells slots Q (F0 m (pc + 3) ls rest)) : W p l e R s m args below meth c H locs cells slots Q (F0 m pc ls (.int v :: .ref (G.2.2 + k) :: rest)) := by
  have he := s_at G σ hk (by decide)
  rw [s_cl, s_cell, hk] at he
  refine va_put (D := G.1) (cl := vwCl) (ty := .int) (C := RX0) (T := TX0) (N := 2) (ci := 0) C.1 C.2.1 C.2.2.2.1 inlX0 tyX0 tyX0_ok nmX0 C.2.2.1 C.2.2.2.2.1 S.1 (s_D G σ) S.2.1 k he rfl 1 (by decide) ((C.2.2.2.1 _ hlink)) (fun _ h => h) rfl (by decide +kernel) rfl rfl (Nat.le_of_ble_eq_true rfl) hdg (fun H1 locs1 hP _ hS => ?_)
  refine kk _ H1 locs1 rfl ⟨?_, hS, s_rokI S.2.2 k 1 v⟩
  rw [s_set (G := G) (σ := σ) (σ' := setI σ k 1 v) (s_kd_lt hk (by decide)) (fun q hq => by show s_cell G (upd2 σ.1 k 1 v q) _ _ q = _; rw [upd2_ne hq]; rfl) (by show s_cell G (upd2 σ.1 k 1 v k) _ _ k = _; rw [s_cell, hk]; simp [upd2, setI])] at hP
  exact hP
theorem gn_X0_1 (C : s_C G p s args m c own cc) (hlink : Cond.fieldLinkNest own idx "PhraseReader$Bytes" "length" "I" "PhraseReader" ∈ nestW) (hk : s_kd k = 0) (S : s_St G σ H0 H locs) (hdg : decode cc pc = .ok (.getfield idx, 3)) (kk : W p l e R s m args below meth c H locs cells slots Q (F0 m (pc + 3) ls (.int (σ.1 k 1) :: rest))) : W p l e R s m args below meth c H locs cells slots Q (F0 m pc ls (.ref (G.2.2 + k) :: rest)) := by
  have he := s_at G σ hk (by decide)
  rw [s_cl, s_cell, hk] at he
  exact va_getN (D := G.1) (cl := vwCl) (C := RX0) (T := TX0) (N := 2) (ci := 0) C.1 C.2.1 C.2.2.2.1 inlX0 C.2.2.1 C.2.2.2.2.1 S.1 k he rfl 1 (by decide) (va_Nw.use (nest_on (nest_is _ hlink)) (C.2.2.2.2.2 _ hlink)) (fun _ h => h) rfl hdg kk
theorem pn_X0_1 (C : s_C G p s args m c own cc) (hlink : Cond.fieldLinkNest own idx "PhraseReader$Bytes" "length" "I" "PhraseReader" ∈ nestW) (hk : s_kd k = 0) (S : s_St G σ H0 H locs) {v : Int32} (hdg : decode cc pc = .ok (.putfield idx, 3)) (kk : ∀ (σ1 : Sg) (H1 : Heap) (locs1 : List Loc), σ1 = setI σ k 1 v → s_St G σ1 H0 H1 locs1 → W p l e R s m args below meth c H1 locs1 cells slots Q (F0 m (pc + 3) ls rest)) : W p l e R s m args below meth c H locs cells slots Q (F0 m pc ls (.int v :: .ref (G.2.2 + k) :: rest)) := by
  have he := s_at G σ hk (by decide)
  rw [s_cl, s_cell, hk] at he
  refine va_putN (D := G.1) (cl := vwCl) (ty := .int) (C := RX0) (T := TX0) (N := 2) (ci := 0) C.1 C.2.1 C.2.2.2.1 inlX0 tyX0 tyX0_ok nmX0 C.2.2.1 C.2.2.2.2.1 S.1 (s_D G σ) S.2.1 k he rfl 1 (by decide) (va_Nw.use (nest_on (nest_is _ hlink)) (C.2.2.2.2.2 _ hlink)) (fun _ h => h) rfl (by decide +kernel) rfl rfl (Nat.le_of_ble_eq_true rfl) hdg (fun H1 locs1 hP _ hS => ?_)
  refine kk _ H1 locs1 rfl ⟨?_, hS, s_rokI S.2.2 k 1 v⟩
  rw [s_set (G := G) (σ := σ) (σ' := setI σ k 1 v) (s_kd_lt hk (by decide)) (fun q hq => by show s_cell G (upd2 σ.1 k 1 v q) _ _ q = _; rw [upd2_ne hq]; rfl) (by show s_cell G (upd2 σ.1 k 1 v k) _ _ k = _; rw [s_cell, hk]; simp [upd2, setI])] at hP
  exact hP
theorem g_X1_0 (C : s_C G p s args m c own cc) (hlink : Cond.fieldLink own idx "PhraseReader$Declarations" "members" "[LPhraseReader$Member;" ∈ wL) (hk : s_kd k = 1) (S : s_St G σ H0 H locs) {q : Nat} (hf : s_fin k 0 = q) (hdg : decode cc pc = .ok (.getfield idx, 3)) (kk : W p l e R s m args below meth c H locs cells slots Q (F0 m (pc + 3) ls (.ref (G.2.2 + q) :: rest))) : W p l e R s m args below meth c H locs cells slots Q (F0 m pc ls (.ref (G.2.2 + k) :: rest)) := by
  subst hf
  have he := s_at G σ hk (by decide)
  rw [s_cl, s_cell, hk] at he
  exact va_get (D := G.1) (cl := vwCl) (C := RX1) (T := TX1) (N := 4) (ci := 1) C.1 C.2.1 C.2.2.2.1 inlX1 C.2.2.1 C.2.2.2.2.1 S.1 k he rfl 0 (by decide) ((C.2.2.2.1 _ hlink)) (fun _ h => h) rfl hdg kk
theorem gn_X1_0 (C : s_C G p s args m c own cc) (hlink : Cond.fieldLinkNest own idx "PhraseReader$Declarations" "members" "[LPhraseReader$Member;" "PhraseReader" ∈ nestW) (hk : s_kd k = 1) (S : s_St G σ H0 H locs) {q : Nat} (hf : s_fin k 0 = q) (hdg : decode cc pc = .ok (.getfield idx, 3)) (kk : W p l e R s m args below meth c H locs cells slots Q (F0 m (pc + 3) ls (.ref (G.2.2 + q) :: rest))) : W p l e R s m args below meth c H locs cells slots Q (F0 m pc ls (.ref (G.2.2 + k) :: rest)) := by
  subst hf
  have he := s_at G σ hk (by decide)
  rw [s_cl, s_cell, hk] at he
  exact va_getN (D := G.1) (cl := vwCl) (C := RX1) (T := TX1) (N := 4) (ci := 1) C.1 C.2.1 C.2.2.2.1 inlX1 C.2.2.1 C.2.2.2.2.1 S.1 k he rfl 0 (by decide) (va_Nw.use (nest_on (nest_is _ hlink)) (C.2.2.2.2.2 _ hlink)) (fun _ h => h) rfl hdg kk
theorem g_X1_1 (C : s_C G p s args m c own cc) (hlink : Cond.fieldLink own idx "PhraseReader$Declarations" "nobody" "LPhraseReader$Member;" ∈ wL) (hk : s_kd k = 1) (S : s_St G σ H0 H locs) {q : Nat} (hf : s_fin k 1 = q) (hdg : decode cc pc = .ok (.getfield idx, 3)) (kk : W p l e R s m args below meth c H locs cells slots Q (F0 m (pc + 3) ls (.ref (G.2.2 + q) :: rest))) : W p l e R s m args below meth c H locs cells slots Q (F0 m pc ls (.ref (G.2.2 + k) :: rest)) := by
  subst hf
  have he := s_at G σ hk (by decide)
  rw [s_cl, s_cell, hk] at he
  exact va_get (D := G.1) (cl := vwCl) (C := RX1) (T := TX1) (N := 4) (ci := 1) C.1 C.2.1 C.2.2.2.1 inlX1 C.2.2.1 C.2.2.2.2.1 S.1 k he rfl 1 (by decide) ((C.2.2.2.1 _ hlink)) (fun _ h => h) rfl hdg kk
theorem gn_X1_1 (C : s_C G p s args m c own cc) (hlink : Cond.fieldLinkNest own idx "PhraseReader$Declarations" "nobody" "LPhraseReader$Member;" "PhraseReader" ∈ nestW) (hk : s_kd k = 1) (S : s_St G σ H0 H locs) {q : Nat} (hf : s_fin k 1 = q) (hdg : decode cc pc = .ok (.getfield idx, 3)) (kk : W p l e R s m args below meth c H locs cells slots Q (F0 m (pc + 3) ls (.ref (G.2.2 + q) :: rest))) : W p l e R s m args below meth c H locs cells slots Q (F0 m pc ls (.ref (G.2.2 + k) :: rest)) := by
  subst hf
  have he := s_at G σ hk (by decide)
  rw [s_cl, s_cell, hk] at he
  exact va_getN (D := G.1) (cl := vwCl) (C := RX1) (T := TX1) (N := 4) (ci := 1) C.1 C.2.1 C.2.2.2.1 inlX1 C.2.2.1 C.2.2.2.2.1 S.1 k he rfl 1 (by decide) (va_Nw.use (nest_on (nest_is _ hlink)) (C.2.2.2.2.2 _ hlink)) (fun _ h => h) rfl hdg kk
theorem g_X1_2 (C : s_C G p s args m c own cc) (hlink : Cond.fieldLink own idx "PhraseReader$Declarations" "count" "I" ∈ wL) (hk : s_kd k = 1) (S : s_St G σ H0 H locs) (hdg : decode cc pc = .ok (.getfield idx, 3)) (kk : W p l e R s m args below meth c H locs cells slots Q (F0 m (pc + 3) ls (.int (σ.1 k 2) :: rest))) : W p l e R s m args below meth c H locs cells slots Q (F0 m pc ls (.ref (G.2.2 + k) :: rest)) := by
  have he := s_at G σ hk (by decide)
  rw [s_cl, s_cell, hk] at he
  exact va_get (D := G.1) (cl := vwCl) (C := RX1) (T := TX1) (N := 4) (ci := 1) C.1 C.2.1 C.2.2.2.1 inlX1 C.2.2.1 C.2.2.2.2.1 S.1 k he rfl 2 (by decide) ((C.2.2.2.1 _ hlink)) (fun _ h => h) rfl hdg kk
theorem p_X1_2 (C : s_C G p s args m c own cc) (hlink : Cond.fieldLink own idx "PhraseReader$Declarations" "count" "I" ∈ wL) (hk : s_kd k = 1) (S : s_St G σ H0 H locs) {v : Int32} (hdg : decode cc pc = .ok (.putfield idx, 3)) (kk : ∀ (σ1 : Sg) (H1 : Heap) (locs1 : List Loc), σ1 = setI σ k 2 v → s_St G σ1 H0 H1 locs1 → W p l e R s m args below meth c H1 locs1 cells slots Q (F0 m (pc + 3) ls rest)) : W p l e R s m args below meth c H locs cells slots Q (F0 m pc ls (.int v :: .ref (G.2.2 + k) :: rest)) := by
  have he := s_at G σ hk (by decide)
  rw [s_cl, s_cell, hk] at he
  refine va_put (D := G.1) (cl := vwCl) (ty := .int) (C := RX1) (T := TX1) (N := 4) (ci := 1) C.1 C.2.1 C.2.2.2.1 inlX1 tyX1 tyX1_ok nmX1 C.2.2.1 C.2.2.2.2.1 S.1 (s_D G σ) S.2.1 k he rfl 2 (by decide) ((C.2.2.2.1 _ hlink)) (fun _ h => h) rfl (by decide +kernel) rfl rfl (Nat.le_of_ble_eq_true rfl) hdg (fun H1 locs1 hP _ hS => ?_)
  refine kk _ H1 locs1 rfl ⟨?_, hS, s_rokI S.2.2 k 2 v⟩
  rw [s_set (G := G) (σ := σ) (σ' := setI σ k 2 v) (s_kd_lt hk (by decide)) (fun q hq => by show s_cell G (upd2 σ.1 k 2 v q) _ _ q = _; rw [upd2_ne hq]; rfl) (by show s_cell G (upd2 σ.1 k 2 v k) _ _ k = _; rw [s_cell, hk]; simp [upd2, setI])] at hP
  exact hP
theorem gn_X1_2 (C : s_C G p s args m c own cc) (hlink : Cond.fieldLinkNest own idx "PhraseReader$Declarations" "count" "I" "PhraseReader" ∈ nestW) (hk : s_kd k = 1) (S : s_St G σ H0 H locs) (hdg : decode cc pc = .ok (.getfield idx, 3)) (kk : W p l e R s m args below meth c H locs cells slots Q (F0 m (pc + 3) ls (.int (σ.1 k 2) :: rest))) : W p l e R s m args below meth c H locs cells slots Q (F0 m pc ls (.ref (G.2.2 + k) :: rest)) := by
  have he := s_at G σ hk (by decide)
  rw [s_cl, s_cell, hk] at he
  exact va_getN (D := G.1) (cl := vwCl) (C := RX1) (T := TX1) (N := 4) (ci := 1) C.1 C.2.1 C.2.2.2.1 inlX1 C.2.2.1 C.2.2.2.2.1 S.1 k he rfl 2 (by decide) (va_Nw.use (nest_on (nest_is _ hlink)) (C.2.2.2.2.2 _ hlink)) (fun _ h => h) rfl hdg kk
theorem pn_X1_2 (C : s_C G p s args m c own cc) (hlink : Cond.fieldLinkNest own idx "PhraseReader$Declarations" "count" "I" "PhraseReader" ∈ nestW) (hk : s_kd k = 1) (S : s_St G σ H0 H locs) {v : Int32} (hdg : decode cc pc = .ok (.putfield idx, 3)) (kk : ∀ (σ1 : Sg) (H1 : Heap) (locs1 : List Loc), σ1 = setI σ k 2 v → s_St G σ1 H0 H1 locs1 → W p l e R s m args below meth c H1 locs1 cells slots Q (F0 m (pc + 3) ls rest)) : W p l e R s m args below meth c H locs cells slots Q (F0 m pc ls (.int v :: .ref (G.2.2 + k) :: rest)) := by
  have he := s_at G σ hk (by decide)
  rw [s_cl, s_cell, hk] at he
  refine va_putN (D := G.1) (cl := vwCl) (ty := .int) (C := RX1) (T := TX1) (N := 4) (ci := 1) C.1 C.2.1 C.2.2.2.1 inlX1 tyX1 tyX1_ok nmX1 C.2.2.1 C.2.2.2.2.1 S.1 (s_D G σ) S.2.1 k he rfl 2 (by decide) (va_Nw.use (nest_on (nest_is _ hlink)) (C.2.2.2.2.2 _ hlink)) (fun _ h => h) rfl (by decide +kernel) rfl rfl (Nat.le_of_ble_eq_true rfl) hdg (fun H1 locs1 hP _ hS => ?_)
  refine kk _ H1 locs1 rfl ⟨?_, hS, s_rokI S.2.2 k 2 v⟩
  rw [s_set (G := G) (σ := σ) (σ' := setI σ k 2 v) (s_kd_lt hk (by decide)) (fun q hq => by show s_cell G (upd2 σ.1 k 2 v q) _ _ q = _; rw [upd2_ne hq]; rfl) (by show s_cell G (upd2 σ.1 k 2 v k) _ _ k = _; rw [s_cell, hk]; simp [upd2, setI])] at hP
  exact hP
theorem g_X1_3 (C : s_C G p s args m c own cc) (hlink : Cond.fieldLink own idx "PhraseReader$Declarations" "separator" "I" ∈ wL) (hk : s_kd k = 1) (S : s_St G σ H0 H locs) (hdg : decode cc pc = .ok (.getfield idx, 3)) (kk : W p l e R s m args below meth c H locs cells slots Q (F0 m (pc + 3) ls (.int (σ.1 k 3) :: rest))) : W p l e R s m args below meth c H locs cells slots Q (F0 m pc ls (.ref (G.2.2 + k) :: rest)) := by
  have he := s_at G σ hk (by decide)
  rw [s_cl, s_cell, hk] at he
  exact va_get (D := G.1) (cl := vwCl) (C := RX1) (T := TX1) (N := 4) (ci := 1) C.1 C.2.1 C.2.2.2.1 inlX1 C.2.2.1 C.2.2.2.2.1 S.1 k he rfl 3 (by decide) ((C.2.2.2.1 _ hlink)) (fun _ h => h) rfl hdg kk
theorem p_X1_3 (C : s_C G p s args m c own cc) (hlink : Cond.fieldLink own idx "PhraseReader$Declarations" "separator" "I" ∈ wL) (hk : s_kd k = 1) (S : s_St G σ H0 H locs) {v : Int32} (hdg : decode cc pc = .ok (.putfield idx, 3)) (kk : ∀ (σ1 : Sg) (H1 : Heap) (locs1 : List Loc), σ1 = setI σ k 3 v → s_St G σ1 H0 H1 locs1 → W p l e R s m args below meth c H1 locs1 cells slots Q (F0 m (pc + 3) ls rest)) : W p l e R s m args below meth c H locs cells slots Q (F0 m pc ls (.int v :: .ref (G.2.2 + k) :: rest)) := by
  have he := s_at G σ hk (by decide)
  rw [s_cl, s_cell, hk] at he
  refine va_put (D := G.1) (cl := vwCl) (ty := .int) (C := RX1) (T := TX1) (N := 4) (ci := 1) C.1 C.2.1 C.2.2.2.1 inlX1 tyX1 tyX1_ok nmX1 C.2.2.1 C.2.2.2.2.1 S.1 (s_D G σ) S.2.1 k he rfl 3 (by decide) ((C.2.2.2.1 _ hlink)) (fun _ h => h) rfl (by decide +kernel) rfl rfl (Nat.le_of_ble_eq_true rfl) hdg (fun H1 locs1 hP _ hS => ?_)
  refine kk _ H1 locs1 rfl ⟨?_, hS, s_rokI S.2.2 k 3 v⟩
  rw [s_set (G := G) (σ := σ) (σ' := setI σ k 3 v) (s_kd_lt hk (by decide)) (fun q hq => by show s_cell G (upd2 σ.1 k 3 v q) _ _ q = _; rw [upd2_ne hq]; rfl) (by show s_cell G (upd2 σ.1 k 3 v k) _ _ k = _; rw [s_cell, hk]; simp [upd2, setI])] at hP
  exact hP
theorem gn_X1_3 (C : s_C G p s args m c own cc) (hlink : Cond.fieldLinkNest own idx "PhraseReader$Declarations" "separator" "I" "PhraseReader" ∈ nestW) (hk : s_kd k = 1) (S : s_St G σ H0 H locs) (hdg : decode cc pc = .ok (.getfield idx, 3)) (kk : W p l e R s m args below meth c H locs cells slots Q (F0 m (pc + 3) ls (.int (σ.1 k 3) :: rest))) : W p l e R s m args below meth c H locs cells slots Q (F0 m pc ls (.ref (G.2.2 + k) :: rest)) := by
  have he := s_at G σ hk (by decide)
  rw [s_cl, s_cell, hk] at he
  exact va_getN (D := G.1) (cl := vwCl) (C := RX1) (T := TX1) (N := 4) (ci := 1) C.1 C.2.1 C.2.2.2.1 inlX1 C.2.2.1 C.2.2.2.2.1 S.1 k he rfl 3 (by decide) (va_Nw.use (nest_on (nest_is _ hlink)) (C.2.2.2.2.2 _ hlink)) (fun _ h => h) rfl hdg kk
theorem pn_X1_3 (C : s_C G p s args m c own cc) (hlink : Cond.fieldLinkNest own idx "PhraseReader$Declarations" "separator" "I" "PhraseReader" ∈ nestW) (hk : s_kd k = 1) (S : s_St G σ H0 H locs) {v : Int32} (hdg : decode cc pc = .ok (.putfield idx, 3)) (kk : ∀ (σ1 : Sg) (H1 : Heap) (locs1 : List Loc), σ1 = setI σ k 3 v → s_St G σ1 H0 H1 locs1 → W p l e R s m args below meth c H1 locs1 cells slots Q (F0 m (pc + 3) ls rest)) : W p l e R s m args below meth c H locs cells slots Q (F0 m pc ls (.int v :: .ref (G.2.2 + k) :: rest)) := by
  have he := s_at G σ hk (by decide)
  rw [s_cl, s_cell, hk] at he
  refine va_putN (D := G.1) (cl := vwCl) (ty := .int) (C := RX1) (T := TX1) (N := 4) (ci := 1) C.1 C.2.1 C.2.2.2.1 inlX1 tyX1 tyX1_ok nmX1 C.2.2.1 C.2.2.2.2.1 S.1 (s_D G σ) S.2.1 k he rfl 3 (by decide) (va_Nw.use (nest_on (nest_is _ hlink)) (C.2.2.2.2.2 _ hlink)) (fun _ h => h) rfl (by decide +kernel) rfl rfl (Nat.le_of_ble_eq_true rfl) hdg (fun H1 locs1 hP _ hS => ?_)
  refine kk _ H1 locs1 rfl ⟨?_, hS, s_rokI S.2.2 k 3 v⟩
  rw [s_set (G := G) (σ := σ) (σ' := setI σ k 3 v) (s_kd_lt hk (by decide)) (fun q hq => by show s_cell G (upd2 σ.1 k 3 v q) _ _ q = _; rw [upd2_ne hq]; rfl) (by show s_cell G (upd2 σ.1 k 3 v k) _ _ k = _; rw [s_cell, hk]; simp [upd2, setI])] at hP
  exact hP
theorem g_X2_0 (C : s_C G p s args m c own cc) (hlink : Cond.fieldLink own idx "PhraseReader$History" "states" "[LPhraseReader$Declarations;" ∈ wL) (hk : s_kd k = 2) (S : s_St G σ H0 H locs) {q : Nat} (hf : s_fin k 0 = q) (hdg : decode cc pc = .ok (.getfield idx, 3)) (kk : W p l e R s m args below meth c H locs cells slots Q (F0 m (pc + 3) ls (.ref (G.2.2 + q) :: rest))) : W p l e R s m args below meth c H locs cells slots Q (F0 m pc ls (.ref (G.2.2 + k) :: rest)) := by
  subst hf
  have he := s_at G σ hk (by decide)
  rw [s_cl, s_cell, hk] at he
  exact va_get (D := G.1) (cl := vwCl) (C := RX2) (T := TX2) (N := 2) (ci := 2) C.1 C.2.1 C.2.2.2.1 inlX2 C.2.2.1 C.2.2.2.2.1 S.1 k he rfl 0 (by decide) ((C.2.2.2.1 _ hlink)) (fun _ h => h) rfl hdg kk
theorem gn_X2_0 (C : s_C G p s args m c own cc) (hlink : Cond.fieldLinkNest own idx "PhraseReader$History" "states" "[LPhraseReader$Declarations;" "PhraseReader" ∈ nestW) (hk : s_kd k = 2) (S : s_St G σ H0 H locs) {q : Nat} (hf : s_fin k 0 = q) (hdg : decode cc pc = .ok (.getfield idx, 3)) (kk : W p l e R s m args below meth c H locs cells slots Q (F0 m (pc + 3) ls (.ref (G.2.2 + q) :: rest))) : W p l e R s m args below meth c H locs cells slots Q (F0 m pc ls (.ref (G.2.2 + k) :: rest)) := by
  subst hf
  have he := s_at G σ hk (by decide)
  rw [s_cl, s_cell, hk] at he
  exact va_getN (D := G.1) (cl := vwCl) (C := RX2) (T := TX2) (N := 2) (ci := 2) C.1 C.2.1 C.2.2.2.1 inlX2 C.2.2.1 C.2.2.2.2.1 S.1 k he rfl 0 (by decide) (va_Nw.use (nest_on (nest_is _ hlink)) (C.2.2.2.2.2 _ hlink)) (fun _ h => h) rfl hdg kk
theorem g_X2_1 (C : s_C G p s args m c own cc) (hlink : Cond.fieldLink own idx "PhraseReader$History" "count" "I" ∈ wL) (hk : s_kd k = 2) (S : s_St G σ H0 H locs) (hdg : decode cc pc = .ok (.getfield idx, 3)) (kk : W p l e R s m args below meth c H locs cells slots Q (F0 m (pc + 3) ls (.int (σ.1 k 1) :: rest))) : W p l e R s m args below meth c H locs cells slots Q (F0 m pc ls (.ref (G.2.2 + k) :: rest)) := by
  have he := s_at G σ hk (by decide)
  rw [s_cl, s_cell, hk] at he
  exact va_get (D := G.1) (cl := vwCl) (C := RX2) (T := TX2) (N := 2) (ci := 2) C.1 C.2.1 C.2.2.2.1 inlX2 C.2.2.1 C.2.2.2.2.1 S.1 k he rfl 1 (by decide) ((C.2.2.2.1 _ hlink)) (fun _ h => h) rfl hdg kk
theorem p_X2_1 (C : s_C G p s args m c own cc) (hlink : Cond.fieldLink own idx "PhraseReader$History" "count" "I" ∈ wL) (hk : s_kd k = 2) (S : s_St G σ H0 H locs) {v : Int32} (hdg : decode cc pc = .ok (.putfield idx, 3)) (kk : ∀ (σ1 : Sg) (H1 : Heap) (locs1 : List Loc), σ1 = setI σ k 1 v → s_St G σ1 H0 H1 locs1 → W p l e R s m args below meth c H1 locs1 cells slots Q (F0 m (pc + 3) ls rest)) : W p l e R s m args below meth c H locs cells slots Q (F0 m pc ls (.int v :: .ref (G.2.2 + k) :: rest)) := by
  have he := s_at G σ hk (by decide)
  rw [s_cl, s_cell, hk] at he
  refine va_put (D := G.1) (cl := vwCl) (ty := .int) (C := RX2) (T := TX2) (N := 2) (ci := 2) C.1 C.2.1 C.2.2.2.1 inlX2 tyX2 tyX2_ok nmX2 C.2.2.1 C.2.2.2.2.1 S.1 (s_D G σ) S.2.1 k he rfl 1 (by decide) ((C.2.2.2.1 _ hlink)) (fun _ h => h) rfl (by decide +kernel) rfl rfl (Nat.le_of_ble_eq_true rfl) hdg (fun H1 locs1 hP _ hS => ?_)
  refine kk _ H1 locs1 rfl ⟨?_, hS, s_rokI S.2.2 k 1 v⟩
  rw [s_set (G := G) (σ := σ) (σ' := setI σ k 1 v) (s_kd_lt hk (by decide)) (fun q hq => by show s_cell G (upd2 σ.1 k 1 v q) _ _ q = _; rw [upd2_ne hq]; rfl) (by show s_cell G (upd2 σ.1 k 1 v k) _ _ k = _; rw [s_cell, hk]; simp [upd2, setI])] at hP
  exact hP
theorem gn_X2_1 (C : s_C G p s args m c own cc) (hlink : Cond.fieldLinkNest own idx "PhraseReader$History" "count" "I" "PhraseReader" ∈ nestW) (hk : s_kd k = 2) (S : s_St G σ H0 H locs) (hdg : decode cc pc = .ok (.getfield idx, 3)) (kk : W p l e R s m args below meth c H locs cells slots Q (F0 m (pc + 3) ls (.int (σ.1 k 1) :: rest))) : W p l e R s m args below meth c H locs cells slots Q (F0 m pc ls (.ref (G.2.2 + k) :: rest)) := by
  have he := s_at G σ hk (by decide)
  rw [s_cl, s_cell, hk] at he
  exact va_getN (D := G.1) (cl := vwCl) (C := RX2) (T := TX2) (N := 2) (ci := 2) C.1 C.2.1 C.2.2.2.1 inlX2 C.2.2.1 C.2.2.2.2.1 S.1 k he rfl 1 (by decide) (va_Nw.use (nest_on (nest_is _ hlink)) (C.2.2.2.2.2 _ hlink)) (fun _ h => h) rfl hdg kk
theorem pn_X2_1 (C : s_C G p s args m c own cc) (hlink : Cond.fieldLinkNest own idx "PhraseReader$History" "count" "I" "PhraseReader" ∈ nestW) (hk : s_kd k = 2) (S : s_St G σ H0 H locs) {v : Int32} (hdg : decode cc pc = .ok (.putfield idx, 3)) (kk : ∀ (σ1 : Sg) (H1 : Heap) (locs1 : List Loc), σ1 = setI σ k 1 v → s_St G σ1 H0 H1 locs1 → W p l e R s m args below meth c H1 locs1 cells slots Q (F0 m (pc + 3) ls rest)) : W p l e R s m args below meth c H locs cells slots Q (F0 m pc ls (.int v :: .ref (G.2.2 + k) :: rest)) := by
  have he := s_at G σ hk (by decide)
  rw [s_cl, s_cell, hk] at he
  refine va_putN (D := G.1) (cl := vwCl) (ty := .int) (C := RX2) (T := TX2) (N := 2) (ci := 2) C.1 C.2.1 C.2.2.2.1 inlX2 tyX2 tyX2_ok nmX2 C.2.2.1 C.2.2.2.2.1 S.1 (s_D G σ) S.2.1 k he rfl 1 (by decide) (va_Nw.use (nest_on (nest_is _ hlink)) (C.2.2.2.2.2 _ hlink)) (fun _ h => h) rfl (by decide +kernel) rfl rfl (Nat.le_of_ble_eq_true rfl) hdg (fun H1 locs1 hP _ hS => ?_)
  refine kk _ H1 locs1 rfl ⟨?_, hS, s_rokI S.2.2 k 1 v⟩
  rw [s_set (G := G) (σ := σ) (σ' := setI σ k 1 v) (s_kd_lt hk (by decide)) (fun q hq => by show s_cell G (upd2 σ.1 k 1 v q) _ _ q = _; rw [upd2_ne hq]; rfl) (by show s_cell G (upd2 σ.1 k 1 v k) _ _ k = _; rw [s_cell, hk]; simp [upd2, setI])] at hP
  exact hP
theorem g_X3_0 (C : s_C G p s args m c own cc) (hlink : Cond.fieldLink own idx "PhraseReader$Member" "word" "I" ∈ wL) (hk : s_kd k = 3) (S : s_St G σ H0 H locs) (hdg : decode cc pc = .ok (.getfield idx, 3)) (kk : W p l e R s m args below meth c H locs cells slots Q (F0 m (pc + 3) ls (.int (σ.1 k 0) :: rest))) : W p l e R s m args below meth c H locs cells slots Q (F0 m pc ls (.ref (G.2.2 + k) :: rest)) := by
  have he := s_at G σ hk (by decide)
  rw [s_cl, s_cell, hk] at he
  exact va_get (D := G.1) (cl := vwCl) (C := RX3) (T := TX3) (N := 6) (ci := 3) C.1 C.2.1 C.2.2.2.1 inlX3 C.2.2.1 C.2.2.2.2.1 S.1 k he rfl 0 (by decide) ((C.2.2.2.1 _ hlink)) (fun _ h => h) rfl hdg kk
theorem p_X3_0 (C : s_C G p s args m c own cc) (hlink : Cond.fieldLink own idx "PhraseReader$Member" "word" "I" ∈ wL) (hk : s_kd k = 3) (S : s_St G σ H0 H locs) {v : Int32} (hdg : decode cc pc = .ok (.putfield idx, 3)) (kk : ∀ (σ1 : Sg) (H1 : Heap) (locs1 : List Loc), σ1 = setI σ k 0 v → s_St G σ1 H0 H1 locs1 → W p l e R s m args below meth c H1 locs1 cells slots Q (F0 m (pc + 3) ls rest)) : W p l e R s m args below meth c H locs cells slots Q (F0 m pc ls (.int v :: .ref (G.2.2 + k) :: rest)) := by
  have he := s_at G σ hk (by decide)
  rw [s_cl, s_cell, hk] at he
  refine va_put (D := G.1) (cl := vwCl) (ty := .int) (C := RX3) (T := TX3) (N := 6) (ci := 3) C.1 C.2.1 C.2.2.2.1 inlX3 tyX3 tyX3_ok nmX3 C.2.2.1 C.2.2.2.2.1 S.1 (s_D G σ) S.2.1 k he rfl 0 (by decide) ((C.2.2.2.1 _ hlink)) (fun _ h => h) rfl (by decide +kernel) rfl rfl (Nat.le_of_ble_eq_true rfl) hdg (fun H1 locs1 hP _ hS => ?_)
  refine kk _ H1 locs1 rfl ⟨?_, hS, s_rokI S.2.2 k 0 v⟩
  rw [s_set (G := G) (σ := σ) (σ' := setI σ k 0 v) (s_kd_lt hk (by decide)) (fun q hq => by show s_cell G (upd2 σ.1 k 0 v q) _ _ q = _; rw [upd2_ne hq]; rfl) (by show s_cell G (upd2 σ.1 k 0 v k) _ _ k = _; rw [s_cell, hk]; simp [upd2, setI])] at hP
  exact hP
theorem gn_X3_0 (C : s_C G p s args m c own cc) (hlink : Cond.fieldLinkNest own idx "PhraseReader$Member" "word" "I" "PhraseReader" ∈ nestW) (hk : s_kd k = 3) (S : s_St G σ H0 H locs) (hdg : decode cc pc = .ok (.getfield idx, 3)) (kk : W p l e R s m args below meth c H locs cells slots Q (F0 m (pc + 3) ls (.int (σ.1 k 0) :: rest))) : W p l e R s m args below meth c H locs cells slots Q (F0 m pc ls (.ref (G.2.2 + k) :: rest)) := by
  have he := s_at G σ hk (by decide)
  rw [s_cl, s_cell, hk] at he
  exact va_getN (D := G.1) (cl := vwCl) (C := RX3) (T := TX3) (N := 6) (ci := 3) C.1 C.2.1 C.2.2.2.1 inlX3 C.2.2.1 C.2.2.2.2.1 S.1 k he rfl 0 (by decide) (va_Nw.use (nest_on (nest_is _ hlink)) (C.2.2.2.2.2 _ hlink)) (fun _ h => h) rfl hdg kk
theorem pn_X3_0 (C : s_C G p s args m c own cc) (hlink : Cond.fieldLinkNest own idx "PhraseReader$Member" "word" "I" "PhraseReader" ∈ nestW) (hk : s_kd k = 3) (S : s_St G σ H0 H locs) {v : Int32} (hdg : decode cc pc = .ok (.putfield idx, 3)) (kk : ∀ (σ1 : Sg) (H1 : Heap) (locs1 : List Loc), σ1 = setI σ k 0 v → s_St G σ1 H0 H1 locs1 → W p l e R s m args below meth c H1 locs1 cells slots Q (F0 m (pc + 3) ls rest)) : W p l e R s m args below meth c H locs cells slots Q (F0 m pc ls (.int v :: .ref (G.2.2 + k) :: rest)) := by
  have he := s_at G σ hk (by decide)
  rw [s_cl, s_cell, hk] at he
  refine va_putN (D := G.1) (cl := vwCl) (ty := .int) (C := RX3) (T := TX3) (N := 6) (ci := 3) C.1 C.2.1 C.2.2.2.1 inlX3 tyX3 tyX3_ok nmX3 C.2.2.1 C.2.2.2.2.1 S.1 (s_D G σ) S.2.1 k he rfl 0 (by decide) (va_Nw.use (nest_on (nest_is _ hlink)) (C.2.2.2.2.2 _ hlink)) (fun _ h => h) rfl (by decide +kernel) rfl rfl (Nat.le_of_ble_eq_true rfl) hdg (fun H1 locs1 hP _ hS => ?_)
  refine kk _ H1 locs1 rfl ⟨?_, hS, s_rokI S.2.2 k 0 v⟩
  rw [s_set (G := G) (σ := σ) (σ' := setI σ k 0 v) (s_kd_lt hk (by decide)) (fun q hq => by show s_cell G (upd2 σ.1 k 0 v q) _ _ q = _; rw [upd2_ne hq]; rfl) (by show s_cell G (upd2 σ.1 k 0 v k) _ _ k = _; rw [s_cell, hk]; simp [upd2, setI])] at hP
  exact hP
theorem g_X3_1 (C : s_C G p s args m c own cc) (hlink : Cond.fieldLink own idx "PhraseReader$Member" "kind" "I" ∈ wL) (hk : s_kd k = 3) (S : s_St G σ H0 H locs) (hdg : decode cc pc = .ok (.getfield idx, 3)) (kk : W p l e R s m args below meth c H locs cells slots Q (F0 m (pc + 3) ls (.int (σ.1 k 1) :: rest))) : W p l e R s m args below meth c H locs cells slots Q (F0 m pc ls (.ref (G.2.2 + k) :: rest)) := by
  have he := s_at G σ hk (by decide)
  rw [s_cl, s_cell, hk] at he
  exact va_get (D := G.1) (cl := vwCl) (C := RX3) (T := TX3) (N := 6) (ci := 3) C.1 C.2.1 C.2.2.2.1 inlX3 C.2.2.1 C.2.2.2.2.1 S.1 k he rfl 1 (by decide) ((C.2.2.2.1 _ hlink)) (fun _ h => h) rfl hdg kk
theorem p_X3_1 (C : s_C G p s args m c own cc) (hlink : Cond.fieldLink own idx "PhraseReader$Member" "kind" "I" ∈ wL) (hk : s_kd k = 3) (S : s_St G σ H0 H locs) {v : Int32} (hdg : decode cc pc = .ok (.putfield idx, 3)) (kk : ∀ (σ1 : Sg) (H1 : Heap) (locs1 : List Loc), σ1 = setI σ k 1 v → s_St G σ1 H0 H1 locs1 → W p l e R s m args below meth c H1 locs1 cells slots Q (F0 m (pc + 3) ls rest)) : W p l e R s m args below meth c H locs cells slots Q (F0 m pc ls (.int v :: .ref (G.2.2 + k) :: rest)) := by
  have he := s_at G σ hk (by decide)
  rw [s_cl, s_cell, hk] at he
  refine va_put (D := G.1) (cl := vwCl) (ty := .int) (C := RX3) (T := TX3) (N := 6) (ci := 3) C.1 C.2.1 C.2.2.2.1 inlX3 tyX3 tyX3_ok nmX3 C.2.2.1 C.2.2.2.2.1 S.1 (s_D G σ) S.2.1 k he rfl 1 (by decide) ((C.2.2.2.1 _ hlink)) (fun _ h => h) rfl (by decide +kernel) rfl rfl (Nat.le_of_ble_eq_true rfl) hdg (fun H1 locs1 hP _ hS => ?_)
  refine kk _ H1 locs1 rfl ⟨?_, hS, s_rokI S.2.2 k 1 v⟩
  rw [s_set (G := G) (σ := σ) (σ' := setI σ k 1 v) (s_kd_lt hk (by decide)) (fun q hq => by show s_cell G (upd2 σ.1 k 1 v q) _ _ q = _; rw [upd2_ne hq]; rfl) (by show s_cell G (upd2 σ.1 k 1 v k) _ _ k = _; rw [s_cell, hk]; simp [upd2, setI])] at hP
  exact hP
theorem gn_X3_1 (C : s_C G p s args m c own cc) (hlink : Cond.fieldLinkNest own idx "PhraseReader$Member" "kind" "I" "PhraseReader" ∈ nestW) (hk : s_kd k = 3) (S : s_St G σ H0 H locs) (hdg : decode cc pc = .ok (.getfield idx, 3)) (kk : W p l e R s m args below meth c H locs cells slots Q (F0 m (pc + 3) ls (.int (σ.1 k 1) :: rest))) : W p l e R s m args below meth c H locs cells slots Q (F0 m pc ls (.ref (G.2.2 + k) :: rest)) := by
  have he := s_at G σ hk (by decide)
  rw [s_cl, s_cell, hk] at he
  exact va_getN (D := G.1) (cl := vwCl) (C := RX3) (T := TX3) (N := 6) (ci := 3) C.1 C.2.1 C.2.2.2.1 inlX3 C.2.2.1 C.2.2.2.2.1 S.1 k he rfl 1 (by decide) (va_Nw.use (nest_on (nest_is _ hlink)) (C.2.2.2.2.2 _ hlink)) (fun _ h => h) rfl hdg kk
theorem pn_X3_1 (C : s_C G p s args m c own cc) (hlink : Cond.fieldLinkNest own idx "PhraseReader$Member" "kind" "I" "PhraseReader" ∈ nestW) (hk : s_kd k = 3) (S : s_St G σ H0 H locs) {v : Int32} (hdg : decode cc pc = .ok (.putfield idx, 3)) (kk : ∀ (σ1 : Sg) (H1 : Heap) (locs1 : List Loc), σ1 = setI σ k 1 v → s_St G σ1 H0 H1 locs1 → W p l e R s m args below meth c H1 locs1 cells slots Q (F0 m (pc + 3) ls rest)) : W p l e R s m args below meth c H locs cells slots Q (F0 m pc ls (.int v :: .ref (G.2.2 + k) :: rest)) := by
  have he := s_at G σ hk (by decide)
  rw [s_cl, s_cell, hk] at he
  refine va_putN (D := G.1) (cl := vwCl) (ty := .int) (C := RX3) (T := TX3) (N := 6) (ci := 3) C.1 C.2.1 C.2.2.2.1 inlX3 tyX3 tyX3_ok nmX3 C.2.2.1 C.2.2.2.2.1 S.1 (s_D G σ) S.2.1 k he rfl 1 (by decide) (va_Nw.use (nest_on (nest_is _ hlink)) (C.2.2.2.2.2 _ hlink)) (fun _ h => h) rfl (by decide +kernel) rfl rfl (Nat.le_of_ble_eq_true rfl) hdg (fun H1 locs1 hP _ hS => ?_)
  refine kk _ H1 locs1 rfl ⟨?_, hS, s_rokI S.2.2 k 1 v⟩
  rw [s_set (G := G) (σ := σ) (σ' := setI σ k 1 v) (s_kd_lt hk (by decide)) (fun q hq => by show s_cell G (upd2 σ.1 k 1 v q) _ _ q = _; rw [upd2_ne hq]; rfl) (by show s_cell G (upd2 σ.1 k 1 v k) _ _ k = _; rw [s_cell, hk]; simp [upd2, setI])] at hP
  exact hP
theorem g_X3_2 (C : s_C G p s args m c own cc) (hlink : Cond.fieldLink own idx "PhraseReader$Member" "least" "I" ∈ wL) (hk : s_kd k = 3) (S : s_St G σ H0 H locs) (hdg : decode cc pc = .ok (.getfield idx, 3)) (kk : W p l e R s m args below meth c H locs cells slots Q (F0 m (pc + 3) ls (.int (σ.1 k 2) :: rest))) : W p l e R s m args below meth c H locs cells slots Q (F0 m pc ls (.ref (G.2.2 + k) :: rest)) := by
  have he := s_at G σ hk (by decide)
  rw [s_cl, s_cell, hk] at he
  exact va_get (D := G.1) (cl := vwCl) (C := RX3) (T := TX3) (N := 6) (ci := 3) C.1 C.2.1 C.2.2.2.1 inlX3 C.2.2.1 C.2.2.2.2.1 S.1 k he rfl 2 (by decide) ((C.2.2.2.1 _ hlink)) (fun _ h => h) rfl hdg kk
theorem p_X3_2 (C : s_C G p s args m c own cc) (hlink : Cond.fieldLink own idx "PhraseReader$Member" "least" "I" ∈ wL) (hk : s_kd k = 3) (S : s_St G σ H0 H locs) {v : Int32} (hdg : decode cc pc = .ok (.putfield idx, 3)) (kk : ∀ (σ1 : Sg) (H1 : Heap) (locs1 : List Loc), σ1 = setI σ k 2 v → s_St G σ1 H0 H1 locs1 → W p l e R s m args below meth c H1 locs1 cells slots Q (F0 m (pc + 3) ls rest)) : W p l e R s m args below meth c H locs cells slots Q (F0 m pc ls (.int v :: .ref (G.2.2 + k) :: rest)) := by
  have he := s_at G σ hk (by decide)
  rw [s_cl, s_cell, hk] at he
  refine va_put (D := G.1) (cl := vwCl) (ty := .int) (C := RX3) (T := TX3) (N := 6) (ci := 3) C.1 C.2.1 C.2.2.2.1 inlX3 tyX3 tyX3_ok nmX3 C.2.2.1 C.2.2.2.2.1 S.1 (s_D G σ) S.2.1 k he rfl 2 (by decide) ((C.2.2.2.1 _ hlink)) (fun _ h => h) rfl (by decide +kernel) rfl rfl (Nat.le_of_ble_eq_true rfl) hdg (fun H1 locs1 hP _ hS => ?_)
  refine kk _ H1 locs1 rfl ⟨?_, hS, s_rokI S.2.2 k 2 v⟩
  rw [s_set (G := G) (σ := σ) (σ' := setI σ k 2 v) (s_kd_lt hk (by decide)) (fun q hq => by show s_cell G (upd2 σ.1 k 2 v q) _ _ q = _; rw [upd2_ne hq]; rfl) (by show s_cell G (upd2 σ.1 k 2 v k) _ _ k = _; rw [s_cell, hk]; simp [upd2, setI])] at hP
  exact hP
theorem gn_X3_2 (C : s_C G p s args m c own cc) (hlink : Cond.fieldLinkNest own idx "PhraseReader$Member" "least" "I" "PhraseReader" ∈ nestW) (hk : s_kd k = 3) (S : s_St G σ H0 H locs) (hdg : decode cc pc = .ok (.getfield idx, 3)) (kk : W p l e R s m args below meth c H locs cells slots Q (F0 m (pc + 3) ls (.int (σ.1 k 2) :: rest))) : W p l e R s m args below meth c H locs cells slots Q (F0 m pc ls (.ref (G.2.2 + k) :: rest)) := by
  have he := s_at G σ hk (by decide)
  rw [s_cl, s_cell, hk] at he
  exact va_getN (D := G.1) (cl := vwCl) (C := RX3) (T := TX3) (N := 6) (ci := 3) C.1 C.2.1 C.2.2.2.1 inlX3 C.2.2.1 C.2.2.2.2.1 S.1 k he rfl 2 (by decide) (va_Nw.use (nest_on (nest_is _ hlink)) (C.2.2.2.2.2 _ hlink)) (fun _ h => h) rfl hdg kk
theorem pn_X3_2 (C : s_C G p s args m c own cc) (hlink : Cond.fieldLinkNest own idx "PhraseReader$Member" "least" "I" "PhraseReader" ∈ nestW) (hk : s_kd k = 3) (S : s_St G σ H0 H locs) {v : Int32} (hdg : decode cc pc = .ok (.putfield idx, 3)) (kk : ∀ (σ1 : Sg) (H1 : Heap) (locs1 : List Loc), σ1 = setI σ k 2 v → s_St G σ1 H0 H1 locs1 → W p l e R s m args below meth c H1 locs1 cells slots Q (F0 m (pc + 3) ls rest)) : W p l e R s m args below meth c H locs cells slots Q (F0 m pc ls (.int v :: .ref (G.2.2 + k) :: rest)) := by
  have he := s_at G σ hk (by decide)
  rw [s_cl, s_cell, hk] at he
  refine va_putN (D := G.1) (cl := vwCl) (ty := .int) (C := RX3) (T := TX3) (N := 6) (ci := 3) C.1 C.2.1 C.2.2.2.1 inlX3 tyX3 tyX3_ok nmX3 C.2.2.1 C.2.2.2.2.1 S.1 (s_D G σ) S.2.1 k he rfl 2 (by decide) (va_Nw.use (nest_on (nest_is _ hlink)) (C.2.2.2.2.2 _ hlink)) (fun _ h => h) rfl (by decide +kernel) rfl rfl (Nat.le_of_ble_eq_true rfl) hdg (fun H1 locs1 hP _ hS => ?_)
  refine kk _ H1 locs1 rfl ⟨?_, hS, s_rokI S.2.2 k 2 v⟩
  rw [s_set (G := G) (σ := σ) (σ' := setI σ k 2 v) (s_kd_lt hk (by decide)) (fun q hq => by show s_cell G (upd2 σ.1 k 2 v q) _ _ q = _; rw [upd2_ne hq]; rfl) (by show s_cell G (upd2 σ.1 k 2 v k) _ _ k = _; rw [s_cell, hk]; simp [upd2, setI])] at hP
  exact hP
theorem g_X3_3 (C : s_C G p s args m c own cc) (hlink : Cond.fieldLink own idx "PhraseReader$Member" "most" "I" ∈ wL) (hk : s_kd k = 3) (S : s_St G σ H0 H locs) (hdg : decode cc pc = .ok (.getfield idx, 3)) (kk : W p l e R s m args below meth c H locs cells slots Q (F0 m (pc + 3) ls (.int (σ.1 k 3) :: rest))) : W p l e R s m args below meth c H locs cells slots Q (F0 m pc ls (.ref (G.2.2 + k) :: rest)) := by
  have he := s_at G σ hk (by decide)
  rw [s_cl, s_cell, hk] at he
  exact va_get (D := G.1) (cl := vwCl) (C := RX3) (T := TX3) (N := 6) (ci := 3) C.1 C.2.1 C.2.2.2.1 inlX3 C.2.2.1 C.2.2.2.2.1 S.1 k he rfl 3 (by decide) ((C.2.2.2.1 _ hlink)) (fun _ h => h) rfl hdg kk
theorem p_X3_3 (C : s_C G p s args m c own cc) (hlink : Cond.fieldLink own idx "PhraseReader$Member" "most" "I" ∈ wL) (hk : s_kd k = 3) (S : s_St G σ H0 H locs) {v : Int32} (hdg : decode cc pc = .ok (.putfield idx, 3)) (kk : ∀ (σ1 : Sg) (H1 : Heap) (locs1 : List Loc), σ1 = setI σ k 3 v → s_St G σ1 H0 H1 locs1 → W p l e R s m args below meth c H1 locs1 cells slots Q (F0 m (pc + 3) ls rest)) : W p l e R s m args below meth c H locs cells slots Q (F0 m pc ls (.int v :: .ref (G.2.2 + k) :: rest)) := by
  have he := s_at G σ hk (by decide)
  rw [s_cl, s_cell, hk] at he
  refine va_put (D := G.1) (cl := vwCl) (ty := .int) (C := RX3) (T := TX3) (N := 6) (ci := 3) C.1 C.2.1 C.2.2.2.1 inlX3 tyX3 tyX3_ok nmX3 C.2.2.1 C.2.2.2.2.1 S.1 (s_D G σ) S.2.1 k he rfl 3 (by decide) ((C.2.2.2.1 _ hlink)) (fun _ h => h) rfl (by decide +kernel) rfl rfl (Nat.le_of_ble_eq_true rfl) hdg (fun H1 locs1 hP _ hS => ?_)
  refine kk _ H1 locs1 rfl ⟨?_, hS, s_rokI S.2.2 k 3 v⟩
  rw [s_set (G := G) (σ := σ) (σ' := setI σ k 3 v) (s_kd_lt hk (by decide)) (fun q hq => by show s_cell G (upd2 σ.1 k 3 v q) _ _ q = _; rw [upd2_ne hq]; rfl) (by show s_cell G (upd2 σ.1 k 3 v k) _ _ k = _; rw [s_cell, hk]; simp [upd2, setI])] at hP
  exact hP
theorem gn_X3_3 (C : s_C G p s args m c own cc) (hlink : Cond.fieldLinkNest own idx "PhraseReader$Member" "most" "I" "PhraseReader" ∈ nestW) (hk : s_kd k = 3) (S : s_St G σ H0 H locs) (hdg : decode cc pc = .ok (.getfield idx, 3)) (kk : W p l e R s m args below meth c H locs cells slots Q (F0 m (pc + 3) ls (.int (σ.1 k 3) :: rest))) : W p l e R s m args below meth c H locs cells slots Q (F0 m pc ls (.ref (G.2.2 + k) :: rest)) := by
  have he := s_at G σ hk (by decide)
  rw [s_cl, s_cell, hk] at he
  exact va_getN (D := G.1) (cl := vwCl) (C := RX3) (T := TX3) (N := 6) (ci := 3) C.1 C.2.1 C.2.2.2.1 inlX3 C.2.2.1 C.2.2.2.2.1 S.1 k he rfl 3 (by decide) (va_Nw.use (nest_on (nest_is _ hlink)) (C.2.2.2.2.2 _ hlink)) (fun _ h => h) rfl hdg kk
theorem pn_X3_3 (C : s_C G p s args m c own cc) (hlink : Cond.fieldLinkNest own idx "PhraseReader$Member" "most" "I" "PhraseReader" ∈ nestW) (hk : s_kd k = 3) (S : s_St G σ H0 H locs) {v : Int32} (hdg : decode cc pc = .ok (.putfield idx, 3)) (kk : ∀ (σ1 : Sg) (H1 : Heap) (locs1 : List Loc), σ1 = setI σ k 3 v → s_St G σ1 H0 H1 locs1 → W p l e R s m args below meth c H1 locs1 cells slots Q (F0 m (pc + 3) ls rest)) : W p l e R s m args below meth c H locs cells slots Q (F0 m pc ls (.int v :: .ref (G.2.2 + k) :: rest)) := by
  have he := s_at G σ hk (by decide)
  rw [s_cl, s_cell, hk] at he
  refine va_putN (D := G.1) (cl := vwCl) (ty := .int) (C := RX3) (T := TX3) (N := 6) (ci := 3) C.1 C.2.1 C.2.2.2.1 inlX3 tyX3 tyX3_ok nmX3 C.2.2.1 C.2.2.2.2.1 S.1 (s_D G σ) S.2.1 k he rfl 3 (by decide) (va_Nw.use (nest_on (nest_is _ hlink)) (C.2.2.2.2.2 _ hlink)) (fun _ h => h) rfl (by decide +kernel) rfl rfl (Nat.le_of_ble_eq_true rfl) hdg (fun H1 locs1 hP _ hS => ?_)
  refine kk _ H1 locs1 rfl ⟨?_, hS, s_rokI S.2.2 k 3 v⟩
  rw [s_set (G := G) (σ := σ) (σ' := setI σ k 3 v) (s_kd_lt hk (by decide)) (fun q hq => by show s_cell G (upd2 σ.1 k 3 v q) _ _ q = _; rw [upd2_ne hq]; rfl) (by show s_cell G (upd2 σ.1 k 3 v k) _ _ k = _; rw [s_cell, hk]; simp [upd2, setI])] at hP
  exact hP
theorem g_X3_4 (C : s_C G p s args m c own cc) (hlink : Cond.fieldLink own idx "PhraseReader$Member" "fallback" "I" ∈ wL) (hk : s_kd k = 3) (S : s_St G σ H0 H locs) (hdg : decode cc pc = .ok (.getfield idx, 3)) (kk : W p l e R s m args below meth c H locs cells slots Q (F0 m (pc + 3) ls (.int (σ.1 k 4) :: rest))) : W p l e R s m args below meth c H locs cells slots Q (F0 m pc ls (.ref (G.2.2 + k) :: rest)) := by
  have he := s_at G σ hk (by decide)
  rw [s_cl, s_cell, hk] at he
  exact va_get (D := G.1) (cl := vwCl) (C := RX3) (T := TX3) (N := 6) (ci := 3) C.1 C.2.1 C.2.2.2.1 inlX3 C.2.2.1 C.2.2.2.2.1 S.1 k he rfl 4 (by decide) ((C.2.2.2.1 _ hlink)) (fun _ h => h) rfl hdg kk
theorem p_X3_4 (C : s_C G p s args m c own cc) (hlink : Cond.fieldLink own idx "PhraseReader$Member" "fallback" "I" ∈ wL) (hk : s_kd k = 3) (S : s_St G σ H0 H locs) {v : Int32} (hdg : decode cc pc = .ok (.putfield idx, 3)) (kk : ∀ (σ1 : Sg) (H1 : Heap) (locs1 : List Loc), σ1 = setI σ k 4 v → s_St G σ1 H0 H1 locs1 → W p l e R s m args below meth c H1 locs1 cells slots Q (F0 m (pc + 3) ls rest)) : W p l e R s m args below meth c H locs cells slots Q (F0 m pc ls (.int v :: .ref (G.2.2 + k) :: rest)) := by
  have he := s_at G σ hk (by decide)
  rw [s_cl, s_cell, hk] at he
  refine va_put (D := G.1) (cl := vwCl) (ty := .int) (C := RX3) (T := TX3) (N := 6) (ci := 3) C.1 C.2.1 C.2.2.2.1 inlX3 tyX3 tyX3_ok nmX3 C.2.2.1 C.2.2.2.2.1 S.1 (s_D G σ) S.2.1 k he rfl 4 (by decide) ((C.2.2.2.1 _ hlink)) (fun _ h => h) rfl (by decide +kernel) rfl rfl (Nat.le_of_ble_eq_true rfl) hdg (fun H1 locs1 hP _ hS => ?_)
  refine kk _ H1 locs1 rfl ⟨?_, hS, s_rokI S.2.2 k 4 v⟩
  rw [s_set (G := G) (σ := σ) (σ' := setI σ k 4 v) (s_kd_lt hk (by decide)) (fun q hq => by show s_cell G (upd2 σ.1 k 4 v q) _ _ q = _; rw [upd2_ne hq]; rfl) (by show s_cell G (upd2 σ.1 k 4 v k) _ _ k = _; rw [s_cell, hk]; simp [upd2, setI])] at hP
  exact hP
theorem gn_X3_4 (C : s_C G p s args m c own cc) (hlink : Cond.fieldLinkNest own idx "PhraseReader$Member" "fallback" "I" "PhraseReader" ∈ nestW) (hk : s_kd k = 3) (S : s_St G σ H0 H locs) (hdg : decode cc pc = .ok (.getfield idx, 3)) (kk : W p l e R s m args below meth c H locs cells slots Q (F0 m (pc + 3) ls (.int (σ.1 k 4) :: rest))) : W p l e R s m args below meth c H locs cells slots Q (F0 m pc ls (.ref (G.2.2 + k) :: rest)) := by
  have he := s_at G σ hk (by decide)
  rw [s_cl, s_cell, hk] at he
  exact va_getN (D := G.1) (cl := vwCl) (C := RX3) (T := TX3) (N := 6) (ci := 3) C.1 C.2.1 C.2.2.2.1 inlX3 C.2.2.1 C.2.2.2.2.1 S.1 k he rfl 4 (by decide) (va_Nw.use (nest_on (nest_is _ hlink)) (C.2.2.2.2.2 _ hlink)) (fun _ h => h) rfl hdg kk
theorem pn_X3_4 (C : s_C G p s args m c own cc) (hlink : Cond.fieldLinkNest own idx "PhraseReader$Member" "fallback" "I" "PhraseReader" ∈ nestW) (hk : s_kd k = 3) (S : s_St G σ H0 H locs) {v : Int32} (hdg : decode cc pc = .ok (.putfield idx, 3)) (kk : ∀ (σ1 : Sg) (H1 : Heap) (locs1 : List Loc), σ1 = setI σ k 4 v → s_St G σ1 H0 H1 locs1 → W p l e R s m args below meth c H1 locs1 cells slots Q (F0 m (pc + 3) ls rest)) : W p l e R s m args below meth c H locs cells slots Q (F0 m pc ls (.int v :: .ref (G.2.2 + k) :: rest)) := by
  have he := s_at G σ hk (by decide)
  rw [s_cl, s_cell, hk] at he
  refine va_putN (D := G.1) (cl := vwCl) (ty := .int) (C := RX3) (T := TX3) (N := 6) (ci := 3) C.1 C.2.1 C.2.2.2.1 inlX3 tyX3 tyX3_ok nmX3 C.2.2.1 C.2.2.2.2.1 S.1 (s_D G σ) S.2.1 k he rfl 4 (by decide) (va_Nw.use (nest_on (nest_is _ hlink)) (C.2.2.2.2.2 _ hlink)) (fun _ h => h) rfl (by decide +kernel) rfl rfl (Nat.le_of_ble_eq_true rfl) hdg (fun H1 locs1 hP _ hS => ?_)
  refine kk _ H1 locs1 rfl ⟨?_, hS, s_rokI S.2.2 k 4 v⟩
  rw [s_set (G := G) (σ := σ) (σ' := setI σ k 4 v) (s_kd_lt hk (by decide)) (fun q hq => by show s_cell G (upd2 σ.1 k 4 v q) _ _ q = _; rw [upd2_ne hq]; rfl) (by show s_cell G (upd2 σ.1 k 4 v k) _ _ k = _; rw [s_cell, hk]; simp [upd2, setI])] at hP
  exact hP
theorem g_X3_5 (C : s_C G p s args m c own cc) (hlink : Cond.fieldLink own idx "PhraseReader$Member" "before" "I" ∈ wL) (hk : s_kd k = 3) (S : s_St G σ H0 H locs) (hdg : decode cc pc = .ok (.getfield idx, 3)) (kk : W p l e R s m args below meth c H locs cells slots Q (F0 m (pc + 3) ls (.int (σ.1 k 5) :: rest))) : W p l e R s m args below meth c H locs cells slots Q (F0 m pc ls (.ref (G.2.2 + k) :: rest)) := by
  have he := s_at G σ hk (by decide)
  rw [s_cl, s_cell, hk] at he
  exact va_get (D := G.1) (cl := vwCl) (C := RX3) (T := TX3) (N := 6) (ci := 3) C.1 C.2.1 C.2.2.2.1 inlX3 C.2.2.1 C.2.2.2.2.1 S.1 k he rfl 5 (by decide) ((C.2.2.2.1 _ hlink)) (fun _ h => h) rfl hdg kk
theorem p_X3_5 (C : s_C G p s args m c own cc) (hlink : Cond.fieldLink own idx "PhraseReader$Member" "before" "I" ∈ wL) (hk : s_kd k = 3) (S : s_St G σ H0 H locs) {v : Int32} (hdg : decode cc pc = .ok (.putfield idx, 3)) (kk : ∀ (σ1 : Sg) (H1 : Heap) (locs1 : List Loc), σ1 = setI σ k 5 v → s_St G σ1 H0 H1 locs1 → W p l e R s m args below meth c H1 locs1 cells slots Q (F0 m (pc + 3) ls rest)) : W p l e R s m args below meth c H locs cells slots Q (F0 m pc ls (.int v :: .ref (G.2.2 + k) :: rest)) := by
  have he := s_at G σ hk (by decide)
  rw [s_cl, s_cell, hk] at he
  refine va_put (D := G.1) (cl := vwCl) (ty := .int) (C := RX3) (T := TX3) (N := 6) (ci := 3) C.1 C.2.1 C.2.2.2.1 inlX3 tyX3 tyX3_ok nmX3 C.2.2.1 C.2.2.2.2.1 S.1 (s_D G σ) S.2.1 k he rfl 5 (by decide) ((C.2.2.2.1 _ hlink)) (fun _ h => h) rfl (by decide +kernel) rfl rfl (Nat.le_of_ble_eq_true rfl) hdg (fun H1 locs1 hP _ hS => ?_)
  refine kk _ H1 locs1 rfl ⟨?_, hS, s_rokI S.2.2 k 5 v⟩
  rw [s_set (G := G) (σ := σ) (σ' := setI σ k 5 v) (s_kd_lt hk (by decide)) (fun q hq => by show s_cell G (upd2 σ.1 k 5 v q) _ _ q = _; rw [upd2_ne hq]; rfl) (by show s_cell G (upd2 σ.1 k 5 v k) _ _ k = _; rw [s_cell, hk]; simp [upd2, setI])] at hP
  exact hP
theorem gn_X3_5 (C : s_C G p s args m c own cc) (hlink : Cond.fieldLinkNest own idx "PhraseReader$Member" "before" "I" "PhraseReader" ∈ nestW) (hk : s_kd k = 3) (S : s_St G σ H0 H locs) (hdg : decode cc pc = .ok (.getfield idx, 3)) (kk : W p l e R s m args below meth c H locs cells slots Q (F0 m (pc + 3) ls (.int (σ.1 k 5) :: rest))) : W p l e R s m args below meth c H locs cells slots Q (F0 m pc ls (.ref (G.2.2 + k) :: rest)) := by
  have he := s_at G σ hk (by decide)
  rw [s_cl, s_cell, hk] at he
  exact va_getN (D := G.1) (cl := vwCl) (C := RX3) (T := TX3) (N := 6) (ci := 3) C.1 C.2.1 C.2.2.2.1 inlX3 C.2.2.1 C.2.2.2.2.1 S.1 k he rfl 5 (by decide) (va_Nw.use (nest_on (nest_is _ hlink)) (C.2.2.2.2.2 _ hlink)) (fun _ h => h) rfl hdg kk
theorem pn_X3_5 (C : s_C G p s args m c own cc) (hlink : Cond.fieldLinkNest own idx "PhraseReader$Member" "before" "I" "PhraseReader" ∈ nestW) (hk : s_kd k = 3) (S : s_St G σ H0 H locs) {v : Int32} (hdg : decode cc pc = .ok (.putfield idx, 3)) (kk : ∀ (σ1 : Sg) (H1 : Heap) (locs1 : List Loc), σ1 = setI σ k 5 v → s_St G σ1 H0 H1 locs1 → W p l e R s m args below meth c H1 locs1 cells slots Q (F0 m (pc + 3) ls rest)) : W p l e R s m args below meth c H locs cells slots Q (F0 m pc ls (.int v :: .ref (G.2.2 + k) :: rest)) := by
  have he := s_at G σ hk (by decide)
  rw [s_cl, s_cell, hk] at he
  refine va_putN (D := G.1) (cl := vwCl) (ty := .int) (C := RX3) (T := TX3) (N := 6) (ci := 3) C.1 C.2.1 C.2.2.2.1 inlX3 tyX3 tyX3_ok nmX3 C.2.2.1 C.2.2.2.2.1 S.1 (s_D G σ) S.2.1 k he rfl 5 (by decide) (va_Nw.use (nest_on (nest_is _ hlink)) (C.2.2.2.2.2 _ hlink)) (fun _ h => h) rfl (by decide +kernel) rfl rfl (Nat.le_of_ble_eq_true rfl) hdg (fun H1 locs1 hP _ hS => ?_)
  refine kk _ H1 locs1 rfl ⟨?_, hS, s_rokI S.2.2 k 5 v⟩
  rw [s_set (G := G) (σ := σ) (σ' := setI σ k 5 v) (s_kd_lt hk (by decide)) (fun q hq => by show s_cell G (upd2 σ.1 k 5 v q) _ _ q = _; rw [upd2_ne hq]; rfl) (by show s_cell G (upd2 σ.1 k 5 v k) _ _ k = _; rw [s_cell, hk]; simp [upd2, setI])] at hP
  exact hP
theorem g_X4_0 (C : s_C G p s args m c own cc) (hlink : Cond.fieldLink own idx "PhraseReader$OrderTable" "counts" "[J" ∈ wL) (hk : s_kd k = 4) (S : s_St G σ H0 H locs) {q : Nat} (hf : s_fin k 0 = q) (hdg : decode cc pc = .ok (.getfield idx, 3)) (kk : W p l e R s m args below meth c H locs cells slots Q (F0 m (pc + 3) ls (.ref (G.2.2 + q) :: rest))) : W p l e R s m args below meth c H locs cells slots Q (F0 m pc ls (.ref (G.2.2 + k) :: rest)) := by
  subst hf
  have he := s_at G σ hk (by decide)
  rw [s_cl, s_cell, hk] at he
  exact va_get (D := G.1) (cl := vwCl) (C := RX4) (T := TX4) (N := 2) (ci := 4) C.1 C.2.1 C.2.2.2.1 inlX4 C.2.2.1 C.2.2.2.2.1 S.1 k he rfl 0 (by decide) ((C.2.2.2.1 _ hlink)) (fun _ h => h) rfl hdg kk
theorem gn_X4_0 (C : s_C G p s args m c own cc) (hlink : Cond.fieldLinkNest own idx "PhraseReader$OrderTable" "counts" "[J" "PhraseReader" ∈ nestW) (hk : s_kd k = 4) (S : s_St G σ H0 H locs) {q : Nat} (hf : s_fin k 0 = q) (hdg : decode cc pc = .ok (.getfield idx, 3)) (kk : W p l e R s m args below meth c H locs cells slots Q (F0 m (pc + 3) ls (.ref (G.2.2 + q) :: rest))) : W p l e R s m args below meth c H locs cells slots Q (F0 m pc ls (.ref (G.2.2 + k) :: rest)) := by
  subst hf
  have he := s_at G σ hk (by decide)
  rw [s_cl, s_cell, hk] at he
  exact va_getN (D := G.1) (cl := vwCl) (C := RX4) (T := TX4) (N := 2) (ci := 4) C.1 C.2.1 C.2.2.2.1 inlX4 C.2.2.1 C.2.2.2.2.1 S.1 k he rfl 0 (by decide) (va_Nw.use (nest_on (nest_is _ hlink)) (C.2.2.2.2.2 _ hlink)) (fun _ h => h) rfl hdg kk
theorem g_X4_1 (C : s_C G p s args m c own cc) (hlink : Cond.fieldLink own idx "PhraseReader$OrderTable" "knownLength" "I" ∈ wL) (hk : s_kd k = 4) (S : s_St G σ H0 H locs) (hdg : decode cc pc = .ok (.getfield idx, 3)) (kk : W p l e R s m args below meth c H locs cells slots Q (F0 m (pc + 3) ls (.int (σ.1 k 1) :: rest))) : W p l e R s m args below meth c H locs cells slots Q (F0 m pc ls (.ref (G.2.2 + k) :: rest)) := by
  have he := s_at G σ hk (by decide)
  rw [s_cl, s_cell, hk] at he
  exact va_get (D := G.1) (cl := vwCl) (C := RX4) (T := TX4) (N := 2) (ci := 4) C.1 C.2.1 C.2.2.2.1 inlX4 C.2.2.1 C.2.2.2.2.1 S.1 k he rfl 1 (by decide) ((C.2.2.2.1 _ hlink)) (fun _ h => h) rfl hdg kk
theorem p_X4_1 (C : s_C G p s args m c own cc) (hlink : Cond.fieldLink own idx "PhraseReader$OrderTable" "knownLength" "I" ∈ wL) (hk : s_kd k = 4) (S : s_St G σ H0 H locs) {v : Int32} (hdg : decode cc pc = .ok (.putfield idx, 3)) (kk : ∀ (σ1 : Sg) (H1 : Heap) (locs1 : List Loc), σ1 = setI σ k 1 v → s_St G σ1 H0 H1 locs1 → W p l e R s m args below meth c H1 locs1 cells slots Q (F0 m (pc + 3) ls rest)) : W p l e R s m args below meth c H locs cells slots Q (F0 m pc ls (.int v :: .ref (G.2.2 + k) :: rest)) := by
  have he := s_at G σ hk (by decide)
  rw [s_cl, s_cell, hk] at he
  refine va_put (D := G.1) (cl := vwCl) (ty := .int) (C := RX4) (T := TX4) (N := 2) (ci := 4) C.1 C.2.1 C.2.2.2.1 inlX4 tyX4 tyX4_ok nmX4 C.2.2.1 C.2.2.2.2.1 S.1 (s_D G σ) S.2.1 k he rfl 1 (by decide) ((C.2.2.2.1 _ hlink)) (fun _ h => h) rfl (by decide +kernel) rfl rfl (Nat.le_of_ble_eq_true rfl) hdg (fun H1 locs1 hP _ hS => ?_)
  refine kk _ H1 locs1 rfl ⟨?_, hS, s_rokI S.2.2 k 1 v⟩
  rw [s_set (G := G) (σ := σ) (σ' := setI σ k 1 v) (s_kd_lt hk (by decide)) (fun q hq => by show s_cell G (upd2 σ.1 k 1 v q) _ _ q = _; rw [upd2_ne hq]; rfl) (by show s_cell G (upd2 σ.1 k 1 v k) _ _ k = _; rw [s_cell, hk]; simp [upd2, setI])] at hP
  exact hP
theorem gn_X4_1 (C : s_C G p s args m c own cc) (hlink : Cond.fieldLinkNest own idx "PhraseReader$OrderTable" "knownLength" "I" "PhraseReader" ∈ nestW) (hk : s_kd k = 4) (S : s_St G σ H0 H locs) (hdg : decode cc pc = .ok (.getfield idx, 3)) (kk : W p l e R s m args below meth c H locs cells slots Q (F0 m (pc + 3) ls (.int (σ.1 k 1) :: rest))) : W p l e R s m args below meth c H locs cells slots Q (F0 m pc ls (.ref (G.2.2 + k) :: rest)) := by
  have he := s_at G σ hk (by decide)
  rw [s_cl, s_cell, hk] at he
  exact va_getN (D := G.1) (cl := vwCl) (C := RX4) (T := TX4) (N := 2) (ci := 4) C.1 C.2.1 C.2.2.2.1 inlX4 C.2.2.1 C.2.2.2.2.1 S.1 k he rfl 1 (by decide) (va_Nw.use (nest_on (nest_is _ hlink)) (C.2.2.2.2.2 _ hlink)) (fun _ h => h) rfl hdg kk
theorem pn_X4_1 (C : s_C G p s args m c own cc) (hlink : Cond.fieldLinkNest own idx "PhraseReader$OrderTable" "knownLength" "I" "PhraseReader" ∈ nestW) (hk : s_kd k = 4) (S : s_St G σ H0 H locs) {v : Int32} (hdg : decode cc pc = .ok (.putfield idx, 3)) (kk : ∀ (σ1 : Sg) (H1 : Heap) (locs1 : List Loc), σ1 = setI σ k 1 v → s_St G σ1 H0 H1 locs1 → W p l e R s m args below meth c H1 locs1 cells slots Q (F0 m (pc + 3) ls rest)) : W p l e R s m args below meth c H locs cells slots Q (F0 m pc ls (.int v :: .ref (G.2.2 + k) :: rest)) := by
  have he := s_at G σ hk (by decide)
  rw [s_cl, s_cell, hk] at he
  refine va_putN (D := G.1) (cl := vwCl) (ty := .int) (C := RX4) (T := TX4) (N := 2) (ci := 4) C.1 C.2.1 C.2.2.2.1 inlX4 tyX4 tyX4_ok nmX4 C.2.2.1 C.2.2.2.2.1 S.1 (s_D G σ) S.2.1 k he rfl 1 (by decide) (va_Nw.use (nest_on (nest_is _ hlink)) (C.2.2.2.2.2 _ hlink)) (fun _ h => h) rfl (by decide +kernel) rfl rfl (Nat.le_of_ble_eq_true rfl) hdg (fun H1 locs1 hP _ hS => ?_)
  refine kk _ H1 locs1 rfl ⟨?_, hS, s_rokI S.2.2 k 1 v⟩
  rw [s_set (G := G) (σ := σ) (σ' := setI σ k 1 v) (s_kd_lt hk (by decide)) (fun q hq => by show s_cell G (upd2 σ.1 k 1 v q) _ _ q = _; rw [upd2_ne hq]; rfl) (by show s_cell G (upd2 σ.1 k 1 v k) _ _ k = _; rw [s_cell, hk]; simp [upd2, setI])] at hP
  exact hP
theorem g_X5_0 (C : s_C G p s args m c own cc) (hlink : Cond.fieldLink own idx "PhraseReader$Reading" "ends" "[I" ∈ wL) (hk : s_kd k = 5) (S : s_St G σ H0 H locs) {q : Nat} (hf : s_fin k 0 = q) (hdg : decode cc pc = .ok (.getfield idx, 3)) (kk : W p l e R s m args below meth c H locs cells slots Q (F0 m (pc + 3) ls (.ref (G.2.2 + q) :: rest))) : W p l e R s m args below meth c H locs cells slots Q (F0 m pc ls (.ref (G.2.2 + k) :: rest)) := by
  subst hf
  have he := s_at G σ hk (by decide)
  rw [s_cl, s_cell, hk] at he
  exact va_get (D := G.1) (cl := vwCl) (C := RX5) (T := TX5) (N := 8) (ci := 5) C.1 C.2.1 C.2.2.2.1 inlX5 C.2.2.1 C.2.2.2.2.1 S.1 k he rfl 0 (by decide) ((C.2.2.2.1 _ hlink)) (fun _ h => h) rfl hdg kk
theorem gn_X5_0 (C : s_C G p s args m c own cc) (hlink : Cond.fieldLinkNest own idx "PhraseReader$Reading" "ends" "[I" "PhraseReader" ∈ nestW) (hk : s_kd k = 5) (S : s_St G σ H0 H locs) {q : Nat} (hf : s_fin k 0 = q) (hdg : decode cc pc = .ok (.getfield idx, 3)) (kk : W p l e R s m args below meth c H locs cells slots Q (F0 m (pc + 3) ls (.ref (G.2.2 + q) :: rest))) : W p l e R s m args below meth c H locs cells slots Q (F0 m pc ls (.ref (G.2.2 + k) :: rest)) := by
  subst hf
  have he := s_at G σ hk (by decide)
  rw [s_cl, s_cell, hk] at he
  exact va_getN (D := G.1) (cl := vwCl) (C := RX5) (T := TX5) (N := 8) (ci := 5) C.1 C.2.1 C.2.2.2.1 inlX5 C.2.2.1 C.2.2.2.2.1 S.1 k he rfl 0 (by decide) (va_Nw.use (nest_on (nest_is _ hlink)) (C.2.2.2.2.2 _ hlink)) (fun _ h => h) rfl hdg kk
theorem g_X5_1 (C : s_C G p s args m c own cc) (hlink : Cond.fieldLink own idx "PhraseReader$Reading" "steps" "[I" ∈ wL) (hk : s_kd k = 5) (S : s_St G σ H0 H locs) {q : Nat} (hf : s_fin k 1 = q) (hdg : decode cc pc = .ok (.getfield idx, 3)) (kk : W p l e R s m args below meth c H locs cells slots Q (F0 m (pc + 3) ls (.ref (G.2.2 + q) :: rest))) : W p l e R s m args below meth c H locs cells slots Q (F0 m pc ls (.ref (G.2.2 + k) :: rest)) := by
  subst hf
  have he := s_at G σ hk (by decide)
  rw [s_cl, s_cell, hk] at he
  exact va_get (D := G.1) (cl := vwCl) (C := RX5) (T := TX5) (N := 8) (ci := 5) C.1 C.2.1 C.2.2.2.1 inlX5 C.2.2.1 C.2.2.2.2.1 S.1 k he rfl 1 (by decide) ((C.2.2.2.1 _ hlink)) (fun _ h => h) rfl hdg kk
theorem gn_X5_1 (C : s_C G p s args m c own cc) (hlink : Cond.fieldLinkNest own idx "PhraseReader$Reading" "steps" "[I" "PhraseReader" ∈ nestW) (hk : s_kd k = 5) (S : s_St G σ H0 H locs) {q : Nat} (hf : s_fin k 1 = q) (hdg : decode cc pc = .ok (.getfield idx, 3)) (kk : W p l e R s m args below meth c H locs cells slots Q (F0 m (pc + 3) ls (.ref (G.2.2 + q) :: rest))) : W p l e R s m args below meth c H locs cells slots Q (F0 m pc ls (.ref (G.2.2 + k) :: rest)) := by
  subst hf
  have he := s_at G σ hk (by decide)
  rw [s_cl, s_cell, hk] at he
  exact va_getN (D := G.1) (cl := vwCl) (C := RX5) (T := TX5) (N := 8) (ci := 5) C.1 C.2.1 C.2.2.2.1 inlX5 C.2.2.1 C.2.2.2.2.1 S.1 k he rfl 1 (by decide) (va_Nw.use (nest_on (nest_is _ hlink)) (C.2.2.2.2.2 _ hlink)) (fun _ h => h) rfl hdg kk
theorem g_X5_2 (C : s_C G p s args m c own cc) (hlink : Cond.fieldLink own idx "PhraseReader$Reading" "ways" "[J" ∈ wL) (hk : s_kd k = 5) (S : s_St G σ H0 H locs) {q : Nat} (hf : s_fin k 2 = q) (hdg : decode cc pc = .ok (.getfield idx, 3)) (kk : W p l e R s m args below meth c H locs cells slots Q (F0 m (pc + 3) ls (.ref (G.2.2 + q) :: rest))) : W p l e R s m args below meth c H locs cells slots Q (F0 m pc ls (.ref (G.2.2 + k) :: rest)) := by
  subst hf
  have he := s_at G σ hk (by decide)
  rw [s_cl, s_cell, hk] at he
  exact va_get (D := G.1) (cl := vwCl) (C := RX5) (T := TX5) (N := 8) (ci := 5) C.1 C.2.1 C.2.2.2.1 inlX5 C.2.2.1 C.2.2.2.2.1 S.1 k he rfl 2 (by decide) ((C.2.2.2.1 _ hlink)) (fun _ h => h) rfl hdg kk
theorem gn_X5_2 (C : s_C G p s args m c own cc) (hlink : Cond.fieldLinkNest own idx "PhraseReader$Reading" "ways" "[J" "PhraseReader" ∈ nestW) (hk : s_kd k = 5) (S : s_St G σ H0 H locs) {q : Nat} (hf : s_fin k 2 = q) (hdg : decode cc pc = .ok (.getfield idx, 3)) (kk : W p l e R s m args below meth c H locs cells slots Q (F0 m (pc + 3) ls (.ref (G.2.2 + q) :: rest))) : W p l e R s m args below meth c H locs cells slots Q (F0 m pc ls (.ref (G.2.2 + k) :: rest)) := by
  subst hf
  have he := s_at G σ hk (by decide)
  rw [s_cl, s_cell, hk] at he
  exact va_getN (D := G.1) (cl := vwCl) (C := RX5) (T := TX5) (N := 8) (ci := 5) C.1 C.2.1 C.2.2.2.1 inlX5 C.2.2.1 C.2.2.2.2.1 S.1 k he rfl 2 (by decide) (va_Nw.use (nest_on (nest_is _ hlink)) (C.2.2.2.2.2 _ hlink)) (fun _ h => h) rfl hdg kk
theorem g_X5_3 (C : s_C G p s args m c own cc) (hlink : Cond.fieldLink own idx "PhraseReader$Reading" "members" "[I" ∈ wL) (hk : s_kd k = 5) (S : s_St G σ H0 H locs) {q : Nat} (hf : s_fin k 3 = q) (hdg : decode cc pc = .ok (.getfield idx, 3)) (kk : W p l e R s m args below meth c H locs cells slots Q (F0 m (pc + 3) ls (.ref (G.2.2 + q) :: rest))) : W p l e R s m args below meth c H locs cells slots Q (F0 m pc ls (.ref (G.2.2 + k) :: rest)) := by
  subst hf
  have he := s_at G σ hk (by decide)
  rw [s_cl, s_cell, hk] at he
  exact va_get (D := G.1) (cl := vwCl) (C := RX5) (T := TX5) (N := 8) (ci := 5) C.1 C.2.1 C.2.2.2.1 inlX5 C.2.2.1 C.2.2.2.2.1 S.1 k he rfl 3 (by decide) ((C.2.2.2.1 _ hlink)) (fun _ h => h) rfl hdg kk
theorem gn_X5_3 (C : s_C G p s args m c own cc) (hlink : Cond.fieldLinkNest own idx "PhraseReader$Reading" "members" "[I" "PhraseReader" ∈ nestW) (hk : s_kd k = 5) (S : s_St G σ H0 H locs) {q : Nat} (hf : s_fin k 3 = q) (hdg : decode cc pc = .ok (.getfield idx, 3)) (kk : W p l e R s m args below meth c H locs cells slots Q (F0 m (pc + 3) ls (.ref (G.2.2 + q) :: rest))) : W p l e R s m args below meth c H locs cells slots Q (F0 m pc ls (.ref (G.2.2 + k) :: rest)) := by
  subst hf
  have he := s_at G σ hk (by decide)
  rw [s_cl, s_cell, hk] at he
  exact va_getN (D := G.1) (cl := vwCl) (C := RX5) (T := TX5) (N := 8) (ci := 5) C.1 C.2.1 C.2.2.2.1 inlX5 C.2.2.1 C.2.2.2.2.1 S.1 k he rfl 3 (by decide) (va_Nw.use (nest_on (nest_is _ hlink)) (C.2.2.2.2.2 _ hlink)) (fun _ h => h) rfl hdg kk
theorem g_X5_4 (C : s_C G p s args m c own cc) (hlink : Cond.fieldLink own idx "PhraseReader$Reading" "starts" "[I" ∈ wL) (hk : s_kd k = 5) (S : s_St G σ H0 H locs) {q : Nat} (hf : s_fin k 4 = q) (hdg : decode cc pc = .ok (.getfield idx, 3)) (kk : W p l e R s m args below meth c H locs cells slots Q (F0 m (pc + 3) ls (.ref (G.2.2 + q) :: rest))) : W p l e R s m args below meth c H locs cells slots Q (F0 m pc ls (.ref (G.2.2 + k) :: rest)) := by
  subst hf
  have he := s_at G σ hk (by decide)
  rw [s_cl, s_cell, hk] at he
  exact va_get (D := G.1) (cl := vwCl) (C := RX5) (T := TX5) (N := 8) (ci := 5) C.1 C.2.1 C.2.2.2.1 inlX5 C.2.2.1 C.2.2.2.2.1 S.1 k he rfl 4 (by decide) ((C.2.2.2.1 _ hlink)) (fun _ h => h) rfl hdg kk
theorem gn_X5_4 (C : s_C G p s args m c own cc) (hlink : Cond.fieldLinkNest own idx "PhraseReader$Reading" "starts" "[I" "PhraseReader" ∈ nestW) (hk : s_kd k = 5) (S : s_St G σ H0 H locs) {q : Nat} (hf : s_fin k 4 = q) (hdg : decode cc pc = .ok (.getfield idx, 3)) (kk : W p l e R s m args below meth c H locs cells slots Q (F0 m (pc + 3) ls (.ref (G.2.2 + q) :: rest))) : W p l e R s m args below meth c H locs cells slots Q (F0 m pc ls (.ref (G.2.2 + k) :: rest)) := by
  subst hf
  have he := s_at G σ hk (by decide)
  rw [s_cl, s_cell, hk] at he
  exact va_getN (D := G.1) (cl := vwCl) (C := RX5) (T := TX5) (N := 8) (ci := 5) C.1 C.2.1 C.2.2.2.1 inlX5 C.2.2.1 C.2.2.2.2.1 S.1 k he rfl 4 (by decide) (va_Nw.use (nest_on (nest_is _ hlink)) (C.2.2.2.2.2 _ hlink)) (fun _ h => h) rfl hdg kk
theorem g_X5_5 (C : s_C G p s args m c own cc) (hlink : Cond.fieldLink own idx "PhraseReader$Reading" "numbers" "[I" ∈ wL) (hk : s_kd k = 5) (S : s_St G σ H0 H locs) {q : Nat} (hf : s_fin k 5 = q) (hdg : decode cc pc = .ok (.getfield idx, 3)) (kk : W p l e R s m args below meth c H locs cells slots Q (F0 m (pc + 3) ls (.ref (G.2.2 + q) :: rest))) : W p l e R s m args below meth c H locs cells slots Q (F0 m pc ls (.ref (G.2.2 + k) :: rest)) := by
  subst hf
  have he := s_at G σ hk (by decide)
  rw [s_cl, s_cell, hk] at he
  exact va_get (D := G.1) (cl := vwCl) (C := RX5) (T := TX5) (N := 8) (ci := 5) C.1 C.2.1 C.2.2.2.1 inlX5 C.2.2.1 C.2.2.2.2.1 S.1 k he rfl 5 (by decide) ((C.2.2.2.1 _ hlink)) (fun _ h => h) rfl hdg kk
theorem gn_X5_5 (C : s_C G p s args m c own cc) (hlink : Cond.fieldLinkNest own idx "PhraseReader$Reading" "numbers" "[I" "PhraseReader" ∈ nestW) (hk : s_kd k = 5) (S : s_St G σ H0 H locs) {q : Nat} (hf : s_fin k 5 = q) (hdg : decode cc pc = .ok (.getfield idx, 3)) (kk : W p l e R s m args below meth c H locs cells slots Q (F0 m (pc + 3) ls (.ref (G.2.2 + q) :: rest))) : W p l e R s m args below meth c H locs cells slots Q (F0 m pc ls (.ref (G.2.2 + k) :: rest)) := by
  subst hf
  have he := s_at G σ hk (by decide)
  rw [s_cl, s_cell, hk] at he
  exact va_getN (D := G.1) (cl := vwCl) (C := RX5) (T := TX5) (N := 8) (ci := 5) C.1 C.2.1 C.2.2.2.1 inlX5 C.2.2.1 C.2.2.2.2.1 S.1 k he rfl 5 (by decide) (va_Nw.use (nest_on (nest_is _ hlink)) (C.2.2.2.2.2 _ hlink)) (fun _ h => h) rfl hdg kk
theorem g_X5_6 (C : s_C G p s args m c own cc) (hlink : Cond.fieldLink own idx "PhraseReader$Reading" "count" "I" ∈ wL) (hk : s_kd k = 5) (S : s_St G σ H0 H locs) (hdg : decode cc pc = .ok (.getfield idx, 3)) (kk : W p l e R s m args below meth c H locs cells slots Q (F0 m (pc + 3) ls (.int (σ.1 k 6) :: rest))) : W p l e R s m args below meth c H locs cells slots Q (F0 m pc ls (.ref (G.2.2 + k) :: rest)) := by
  have he := s_at G σ hk (by decide)
  rw [s_cl, s_cell, hk] at he
  exact va_get (D := G.1) (cl := vwCl) (C := RX5) (T := TX5) (N := 8) (ci := 5) C.1 C.2.1 C.2.2.2.1 inlX5 C.2.2.1 C.2.2.2.2.1 S.1 k he rfl 6 (by decide) ((C.2.2.2.1 _ hlink)) (fun _ h => h) rfl hdg kk
theorem p_X5_6 (C : s_C G p s args m c own cc) (hlink : Cond.fieldLink own idx "PhraseReader$Reading" "count" "I" ∈ wL) (hk : s_kd k = 5) (S : s_St G σ H0 H locs) {v : Int32} (hdg : decode cc pc = .ok (.putfield idx, 3)) (kk : ∀ (σ1 : Sg) (H1 : Heap) (locs1 : List Loc), σ1 = setI σ k 6 v → s_St G σ1 H0 H1 locs1 → W p l e R s m args below meth c H1 locs1 cells slots Q (F0 m (pc + 3) ls rest)) : W p l e R s m args below meth c H locs cells slots Q (F0 m pc ls (.int v :: .ref (G.2.2 + k) :: rest)) := by
  have he := s_at G σ hk (by decide)
  rw [s_cl, s_cell, hk] at he
  refine va_put (D := G.1) (cl := vwCl) (ty := .int) (C := RX5) (T := TX5) (N := 8) (ci := 5) C.1 C.2.1 C.2.2.2.1 inlX5 tyX5 tyX5_ok nmX5 C.2.2.1 C.2.2.2.2.1 S.1 (s_D G σ) S.2.1 k he rfl 6 (by decide) ((C.2.2.2.1 _ hlink)) (fun _ h => h) rfl (by decide +kernel) rfl rfl (Nat.le_of_ble_eq_true rfl) hdg (fun H1 locs1 hP _ hS => ?_)
  refine kk _ H1 locs1 rfl ⟨?_, hS, s_rokI S.2.2 k 6 v⟩
  rw [s_set (G := G) (σ := σ) (σ' := setI σ k 6 v) (s_kd_lt hk (by decide)) (fun q hq => by show s_cell G (upd2 σ.1 k 6 v q) _ _ q = _; rw [upd2_ne hq]; rfl) (by show s_cell G (upd2 σ.1 k 6 v k) _ _ k = _; rw [s_cell, hk]; simp [upd2, setI])] at hP
  exact hP
theorem gn_X5_6 (C : s_C G p s args m c own cc) (hlink : Cond.fieldLinkNest own idx "PhraseReader$Reading" "count" "I" "PhraseReader" ∈ nestW) (hk : s_kd k = 5) (S : s_St G σ H0 H locs) (hdg : decode cc pc = .ok (.getfield idx, 3)) (kk : W p l e R s m args below meth c H locs cells slots Q (F0 m (pc + 3) ls (.int (σ.1 k 6) :: rest))) : W p l e R s m args below meth c H locs cells slots Q (F0 m pc ls (.ref (G.2.2 + k) :: rest)) := by
  have he := s_at G σ hk (by decide)
  rw [s_cl, s_cell, hk] at he
  exact va_getN (D := G.1) (cl := vwCl) (C := RX5) (T := TX5) (N := 8) (ci := 5) C.1 C.2.1 C.2.2.2.1 inlX5 C.2.2.1 C.2.2.2.2.1 S.1 k he rfl 6 (by decide) (va_Nw.use (nest_on (nest_is _ hlink)) (C.2.2.2.2.2 _ hlink)) (fun _ h => h) rfl hdg kk
theorem pn_X5_6 (C : s_C G p s args m c own cc) (hlink : Cond.fieldLinkNest own idx "PhraseReader$Reading" "count" "I" "PhraseReader" ∈ nestW) (hk : s_kd k = 5) (S : s_St G σ H0 H locs) {v : Int32} (hdg : decode cc pc = .ok (.putfield idx, 3)) (kk : ∀ (σ1 : Sg) (H1 : Heap) (locs1 : List Loc), σ1 = setI σ k 6 v → s_St G σ1 H0 H1 locs1 → W p l e R s m args below meth c H1 locs1 cells slots Q (F0 m (pc + 3) ls rest)) : W p l e R s m args below meth c H locs cells slots Q (F0 m pc ls (.int v :: .ref (G.2.2 + k) :: rest)) := by
  have he := s_at G σ hk (by decide)
  rw [s_cl, s_cell, hk] at he
  refine va_putN (D := G.1) (cl := vwCl) (ty := .int) (C := RX5) (T := TX5) (N := 8) (ci := 5) C.1 C.2.1 C.2.2.2.1 inlX5 tyX5 tyX5_ok nmX5 C.2.2.1 C.2.2.2.2.1 S.1 (s_D G σ) S.2.1 k he rfl 6 (by decide) (va_Nw.use (nest_on (nest_is _ hlink)) (C.2.2.2.2.2 _ hlink)) (fun _ h => h) rfl (by decide +kernel) rfl rfl (Nat.le_of_ble_eq_true rfl) hdg (fun H1 locs1 hP _ hS => ?_)
  refine kk _ H1 locs1 rfl ⟨?_, hS, s_rokI S.2.2 k 6 v⟩
  rw [s_set (G := G) (σ := σ) (σ' := setI σ k 6 v) (s_kd_lt hk (by decide)) (fun q hq => by show s_cell G (upd2 σ.1 k 6 v q) _ _ q = _; rw [upd2_ne hq]; rfl) (by show s_cell G (upd2 σ.1 k 6 v k) _ _ k = _; rw [s_cell, hk]; simp [upd2, setI])] at hP
  exact hP
theorem g_X5_7 (C : s_C G p s args m c own cc) (hlink : Cond.fieldLink own idx "PhraseReader$Reading" "known" "Z" ∈ wL) (hk : s_kd k = 5) (S : s_St G σ H0 H locs) (hdg : decode cc pc = .ok (.getfield idx, 3)) (kk : W p l e R s m args below meth c H locs cells slots Q (F0 m (pc + 3) ls (.int (σ.1 k 7) :: rest))) : W p l e R s m args below meth c H locs cells slots Q (F0 m pc ls (.ref (G.2.2 + k) :: rest)) := by
  have he := s_at G σ hk (by decide)
  rw [s_cl, s_cell, hk] at he
  exact va_get (D := G.1) (cl := vwCl) (C := RX5) (T := TX5) (N := 8) (ci := 5) C.1 C.2.1 C.2.2.2.1 inlX5 C.2.2.1 C.2.2.2.2.1 S.1 k he rfl 7 (by decide) ((C.2.2.2.1 _ hlink)) (fun _ h => h) rfl hdg kk
theorem p_X5_7 (C : s_C G p s args m c own cc) (hlink : Cond.fieldLink own idx "PhraseReader$Reading" "known" "Z" ∈ wL) (hk : s_kd k = 5) (S : s_St G σ H0 H locs) {v : Int32} (hn : narrow .boolean (.int v) = .int v) (hfit : fits .boolean (.int v) = true) (hdg : decode cc pc = .ok (.putfield idx, 3)) (kk : ∀ (σ1 : Sg) (H1 : Heap) (locs1 : List Loc), σ1 = setI σ k 7 v → s_St G σ1 H0 H1 locs1 → W p l e R s m args below meth c H1 locs1 cells slots Q (F0 m (pc + 3) ls rest)) : W p l e R s m args below meth c H locs cells slots Q (F0 m pc ls (.int v :: .ref (G.2.2 + k) :: rest)) := by
  have he := s_at G σ hk (by decide)
  rw [s_cl, s_cell, hk] at he
  refine va_put (D := G.1) (cl := vwCl) (ty := .boolean) (C := RX5) (T := TX5) (N := 8) (ci := 5) C.1 C.2.1 C.2.2.2.1 inlX5 tyX5 tyX5_ok nmX5 C.2.2.1 C.2.2.2.2.1 S.1 (s_D G σ) S.2.1 k he rfl 7 (by decide) ((C.2.2.2.1 _ hlink)) (fun _ h => h) rfl (by decide +kernel) hn hfit (Nat.le_of_ble_eq_true rfl) hdg (fun H1 locs1 hP _ hS => ?_)
  refine kk _ H1 locs1 rfl ⟨?_, hS, s_rokI S.2.2 k 7 v⟩
  rw [s_set (G := G) (σ := σ) (σ' := setI σ k 7 v) (s_kd_lt hk (by decide)) (fun q hq => by show s_cell G (upd2 σ.1 k 7 v q) _ _ q = _; rw [upd2_ne hq]; rfl) (by show s_cell G (upd2 σ.1 k 7 v k) _ _ k = _; rw [s_cell, hk]; simp [upd2, setI])] at hP
  exact hP
theorem gn_X5_7 (C : s_C G p s args m c own cc) (hlink : Cond.fieldLinkNest own idx "PhraseReader$Reading" "known" "Z" "PhraseReader" ∈ nestW) (hk : s_kd k = 5) (S : s_St G σ H0 H locs) (hdg : decode cc pc = .ok (.getfield idx, 3)) (kk : W p l e R s m args below meth c H locs cells slots Q (F0 m (pc + 3) ls (.int (σ.1 k 7) :: rest))) : W p l e R s m args below meth c H locs cells slots Q (F0 m pc ls (.ref (G.2.2 + k) :: rest)) := by
  have he := s_at G σ hk (by decide)
  rw [s_cl, s_cell, hk] at he
  exact va_getN (D := G.1) (cl := vwCl) (C := RX5) (T := TX5) (N := 8) (ci := 5) C.1 C.2.1 C.2.2.2.1 inlX5 C.2.2.1 C.2.2.2.2.1 S.1 k he rfl 7 (by decide) (va_Nw.use (nest_on (nest_is _ hlink)) (C.2.2.2.2.2 _ hlink)) (fun _ h => h) rfl hdg kk
theorem pn_X5_7 (C : s_C G p s args m c own cc) (hlink : Cond.fieldLinkNest own idx "PhraseReader$Reading" "known" "Z" "PhraseReader" ∈ nestW) (hk : s_kd k = 5) (S : s_St G σ H0 H locs) {v : Int32} (hn : narrow .boolean (.int v) = .int v) (hfit : fits .boolean (.int v) = true) (hdg : decode cc pc = .ok (.putfield idx, 3)) (kk : ∀ (σ1 : Sg) (H1 : Heap) (locs1 : List Loc), σ1 = setI σ k 7 v → s_St G σ1 H0 H1 locs1 → W p l e R s m args below meth c H1 locs1 cells slots Q (F0 m (pc + 3) ls rest)) : W p l e R s m args below meth c H locs cells slots Q (F0 m pc ls (.int v :: .ref (G.2.2 + k) :: rest)) := by
  have he := s_at G σ hk (by decide)
  rw [s_cl, s_cell, hk] at he
  refine va_putN (D := G.1) (cl := vwCl) (ty := .boolean) (C := RX5) (T := TX5) (N := 8) (ci := 5) C.1 C.2.1 C.2.2.2.1 inlX5 tyX5 tyX5_ok nmX5 C.2.2.1 C.2.2.2.2.1 S.1 (s_D G σ) S.2.1 k he rfl 7 (by decide) (va_Nw.use (nest_on (nest_is _ hlink)) (C.2.2.2.2.2 _ hlink)) (fun _ h => h) rfl (by decide +kernel) hn hfit (Nat.le_of_ble_eq_true rfl) hdg (fun H1 locs1 hP _ hS => ?_)
  refine kk _ H1 locs1 rfl ⟨?_, hS, s_rokI S.2.2 k 7 v⟩
  rw [s_set (G := G) (σ := σ) (σ' := setI σ k 7 v) (s_kd_lt hk (by decide)) (fun q hq => by show s_cell G (upd2 σ.1 k 7 v q) _ _ q = _; rw [upd2_ne hq]; rfl) (by show s_cell G (upd2 σ.1 k 7 v k) _ _ k = _; rw [s_cell, hk]; simp [upd2, setI])] at hP
  exact hP
theorem g_X6_0 (C : s_C G p s args m c own cc) (hlink : Cond.fieldLink own idx "PhraseReader" "text" "LPhraseReader$Bytes;" ∈ wL) (hk : s_kd k = 6) (S : s_St G σ H0 H locs) {q : Nat} (hf : s_fin k 0 = q) (hdg : decode cc pc = .ok (.getfield idx, 3)) (kk : W p l e R s m args below meth c H locs cells slots Q (F0 m (pc + 3) ls (.ref (G.2.2 + q) :: rest))) : W p l e R s m args below meth c H locs cells slots Q (F0 m pc ls (.ref (G.2.2 + k) :: rest)) := by
  subst hf
  have he := s_at G σ hk (by decide)
  rw [s_cl, s_cell, hk] at he
  exact va_get (D := G.1) (cl := vwCl) (C := RX6) (T := TX6) (N := 8) (ci := 6) C.1 C.2.1 C.2.2.2.1 inlX6 C.2.2.1 C.2.2.2.2.1 S.1 k he rfl 0 (by decide) ((C.2.2.2.1 _ hlink)) (fun _ h => h) rfl hdg kk
theorem gn_X6_0 (C : s_C G p s args m c own cc) (hlink : Cond.fieldLinkNest own idx "PhraseReader" "text" "LPhraseReader$Bytes;" "PhraseReader" ∈ nestW) (hk : s_kd k = 6) (S : s_St G σ H0 H locs) {q : Nat} (hf : s_fin k 0 = q) (hdg : decode cc pc = .ok (.getfield idx, 3)) (kk : W p l e R s m args below meth c H locs cells slots Q (F0 m (pc + 3) ls (.ref (G.2.2 + q) :: rest))) : W p l e R s m args below meth c H locs cells slots Q (F0 m pc ls (.ref (G.2.2 + k) :: rest)) := by
  subst hf
  have he := s_at G σ hk (by decide)
  rw [s_cl, s_cell, hk] at he
  exact va_getN (D := G.1) (cl := vwCl) (C := RX6) (T := TX6) (N := 8) (ci := 6) C.1 C.2.1 C.2.2.2.1 inlX6 C.2.2.1 C.2.2.2.2.1 S.1 k he rfl 0 (by decide) (va_Nw.use (nest_on (nest_is _ hlink)) (C.2.2.2.2.2 _ hlink)) (fun _ h => h) rfl hdg kk
theorem g_X6_1 (C : s_C G p s args m c own cc) (hlink : Cond.fieldLink own idx "PhraseReader" "normalForm" "LPhraseReader$Bytes;" ∈ wL) (hk : s_kd k = 6) (S : s_St G σ H0 H locs) {q : Nat} (hf : s_fin k 1 = q) (hdg : decode cc pc = .ok (.getfield idx, 3)) (kk : W p l e R s m args below meth c H locs cells slots Q (F0 m (pc + 3) ls (.ref (G.2.2 + q) :: rest))) : W p l e R s m args below meth c H locs cells slots Q (F0 m pc ls (.ref (G.2.2 + k) :: rest)) := by
  subst hf
  have he := s_at G σ hk (by decide)
  rw [s_cl, s_cell, hk] at he
  exact va_get (D := G.1) (cl := vwCl) (C := RX6) (T := TX6) (N := 8) (ci := 6) C.1 C.2.1 C.2.2.2.1 inlX6 C.2.2.1 C.2.2.2.2.1 S.1 k he rfl 1 (by decide) ((C.2.2.2.1 _ hlink)) (fun _ h => h) rfl hdg kk
theorem gn_X6_1 (C : s_C G p s args m c own cc) (hlink : Cond.fieldLinkNest own idx "PhraseReader" "normalForm" "LPhraseReader$Bytes;" "PhraseReader" ∈ nestW) (hk : s_kd k = 6) (S : s_St G σ H0 H locs) {q : Nat} (hf : s_fin k 1 = q) (hdg : decode cc pc = .ok (.getfield idx, 3)) (kk : W p l e R s m args below meth c H locs cells slots Q (F0 m (pc + 3) ls (.ref (G.2.2 + q) :: rest))) : W p l e R s m args below meth c H locs cells slots Q (F0 m pc ls (.ref (G.2.2 + k) :: rest)) := by
  subst hf
  have he := s_at G σ hk (by decide)
  rw [s_cl, s_cell, hk] at he
  exact va_getN (D := G.1) (cl := vwCl) (C := RX6) (T := TX6) (N := 8) (ci := 6) C.1 C.2.1 C.2.2.2.1 inlX6 C.2.2.1 C.2.2.2.2.1 S.1 k he rfl 1 (by decide) (va_Nw.use (nest_on (nest_is _ hlink)) (C.2.2.2.2.2 _ hlink)) (fun _ h => h) rfl hdg kk
theorem g_X6_2 (C : s_C G p s args m c own cc) (hlink : Cond.fieldLink own idx "PhraseReader" "now" "LPhraseReader$Declarations;" ∈ wL) (hk : s_kd k = 6) (S : s_St G σ H0 H locs) {q : Nat} (hf : s_fin k 2 = q) (hdg : decode cc pc = .ok (.getfield idx, 3)) (kk : W p l e R s m args below meth c H locs cells slots Q (F0 m (pc + 3) ls (.ref (G.2.2 + q) :: rest))) : W p l e R s m args below meth c H locs cells slots Q (F0 m pc ls (.ref (G.2.2 + k) :: rest)) := by
  subst hf
  have he := s_at G σ hk (by decide)
  rw [s_cl, s_cell, hk] at he
  exact va_get (D := G.1) (cl := vwCl) (C := RX6) (T := TX6) (N := 8) (ci := 6) C.1 C.2.1 C.2.2.2.1 inlX6 C.2.2.1 C.2.2.2.2.1 S.1 k he rfl 2 (by decide) ((C.2.2.2.1 _ hlink)) (fun _ h => h) rfl hdg kk
theorem gn_X6_2 (C : s_C G p s args m c own cc) (hlink : Cond.fieldLinkNest own idx "PhraseReader" "now" "LPhraseReader$Declarations;" "PhraseReader" ∈ nestW) (hk : s_kd k = 6) (S : s_St G σ H0 H locs) {q : Nat} (hf : s_fin k 2 = q) (hdg : decode cc pc = .ok (.getfield idx, 3)) (kk : W p l e R s m args below meth c H locs cells slots Q (F0 m (pc + 3) ls (.ref (G.2.2 + q) :: rest))) : W p l e R s m args below meth c H locs cells slots Q (F0 m pc ls (.ref (G.2.2 + k) :: rest)) := by
  subst hf
  have he := s_at G σ hk (by decide)
  rw [s_cl, s_cell, hk] at he
  exact va_getN (D := G.1) (cl := vwCl) (C := RX6) (T := TX6) (N := 8) (ci := 6) C.1 C.2.1 C.2.2.2.1 inlX6 C.2.2.1 C.2.2.2.2.1 S.1 k he rfl 2 (by decide) (va_Nw.use (nest_on (nest_is _ hlink)) (C.2.2.2.2.2 _ hlink)) (fun _ h => h) rfl hdg kk
theorem g_X6_3 (C : s_C G p s args m c own cc) (hlink : Cond.fieldLink own idx "PhraseReader" "history" "LPhraseReader$History;" ∈ wL) (hk : s_kd k = 6) (S : s_St G σ H0 H locs) {q : Nat} (hf : s_fin k 3 = q) (hdg : decode cc pc = .ok (.getfield idx, 3)) (kk : W p l e R s m args below meth c H locs cells slots Q (F0 m (pc + 3) ls (.ref (G.2.2 + q) :: rest))) : W p l e R s m args below meth c H locs cells slots Q (F0 m pc ls (.ref (G.2.2 + k) :: rest)) := by
  subst hf
  have he := s_at G σ hk (by decide)
  rw [s_cl, s_cell, hk] at he
  exact va_get (D := G.1) (cl := vwCl) (C := RX6) (T := TX6) (N := 8) (ci := 6) C.1 C.2.1 C.2.2.2.1 inlX6 C.2.2.1 C.2.2.2.2.1 S.1 k he rfl 3 (by decide) ((C.2.2.2.1 _ hlink)) (fun _ h => h) rfl hdg kk
theorem gn_X6_3 (C : s_C G p s args m c own cc) (hlink : Cond.fieldLinkNest own idx "PhraseReader" "history" "LPhraseReader$History;" "PhraseReader" ∈ nestW) (hk : s_kd k = 6) (S : s_St G σ H0 H locs) {q : Nat} (hf : s_fin k 3 = q) (hdg : decode cc pc = .ok (.getfield idx, 3)) (kk : W p l e R s m args below meth c H locs cells slots Q (F0 m (pc + 3) ls (.ref (G.2.2 + q) :: rest))) : W p l e R s m args below meth c H locs cells slots Q (F0 m pc ls (.ref (G.2.2 + k) :: rest)) := by
  subst hf
  have he := s_at G σ hk (by decide)
  rw [s_cl, s_cell, hk] at he
  exact va_getN (D := G.1) (cl := vwCl) (C := RX6) (T := TX6) (N := 8) (ci := 6) C.1 C.2.1 C.2.2.2.1 inlX6 C.2.2.1 C.2.2.2.2.1 S.1 k he rfl 3 (by decide) (va_Nw.use (nest_on (nest_is _ hlink)) (C.2.2.2.2.2 _ hlink)) (fun _ h => h) rfl hdg kk
theorem g_X6_4 (C : s_C G p s args m c own cc) (hlink : Cond.fieldLink own idx "PhraseReader" "images" "[LPhraseReader$Declarations;" ∈ wL) (hk : s_kd k = 6) (S : s_St G σ H0 H locs) {q : Nat} (hf : s_fin k 4 = q) (hdg : decode cc pc = .ok (.getfield idx, 3)) (kk : W p l e R s m args below meth c H locs cells slots Q (F0 m (pc + 3) ls (.ref (G.2.2 + q) :: rest))) : W p l e R s m args below meth c H locs cells slots Q (F0 m pc ls (.ref (G.2.2 + k) :: rest)) := by
  subst hf
  have he := s_at G σ hk (by decide)
  rw [s_cl, s_cell, hk] at he
  exact va_get (D := G.1) (cl := vwCl) (C := RX6) (T := TX6) (N := 8) (ci := 6) C.1 C.2.1 C.2.2.2.1 inlX6 C.2.2.1 C.2.2.2.2.1 S.1 k he rfl 4 (by decide) ((C.2.2.2.1 _ hlink)) (fun _ h => h) rfl hdg kk
theorem gn_X6_4 (C : s_C G p s args m c own cc) (hlink : Cond.fieldLinkNest own idx "PhraseReader" "images" "[LPhraseReader$Declarations;" "PhraseReader" ∈ nestW) (hk : s_kd k = 6) (S : s_St G σ H0 H locs) {q : Nat} (hf : s_fin k 4 = q) (hdg : decode cc pc = .ok (.getfield idx, 3)) (kk : W p l e R s m args below meth c H locs cells slots Q (F0 m (pc + 3) ls (.ref (G.2.2 + q) :: rest))) : W p l e R s m args below meth c H locs cells slots Q (F0 m pc ls (.ref (G.2.2 + k) :: rest)) := by
  subst hf
  have he := s_at G σ hk (by decide)
  rw [s_cl, s_cell, hk] at he
  exact va_getN (D := G.1) (cl := vwCl) (C := RX6) (T := TX6) (N := 8) (ci := 6) C.1 C.2.1 C.2.2.2.1 inlX6 C.2.2.1 C.2.2.2.2.1 S.1 k he rfl 4 (by decide) (va_Nw.use (nest_on (nest_is _ hlink)) (C.2.2.2.2.2 _ hlink)) (fun _ h => h) rfl hdg kk
theorem g_X6_5 (C : s_C G p s args m c own cc) (hlink : Cond.fieldLink own idx "PhraseReader" "kept" "[Z" ∈ wL) (hk : s_kd k = 6) (S : s_St G σ H0 H locs) {q : Nat} (hf : s_fin k 5 = q) (hdg : decode cc pc = .ok (.getfield idx, 3)) (kk : W p l e R s m args below meth c H locs cells slots Q (F0 m (pc + 3) ls (.ref (G.2.2 + q) :: rest))) : W p l e R s m args below meth c H locs cells slots Q (F0 m pc ls (.ref (G.2.2 + k) :: rest)) := by
  subst hf
  have he := s_at G σ hk (by decide)
  rw [s_cl, s_cell, hk] at he
  exact va_get (D := G.1) (cl := vwCl) (C := RX6) (T := TX6) (N := 8) (ci := 6) C.1 C.2.1 C.2.2.2.1 inlX6 C.2.2.1 C.2.2.2.2.1 S.1 k he rfl 5 (by decide) ((C.2.2.2.1 _ hlink)) (fun _ h => h) rfl hdg kk
theorem gn_X6_5 (C : s_C G p s args m c own cc) (hlink : Cond.fieldLinkNest own idx "PhraseReader" "kept" "[Z" "PhraseReader" ∈ nestW) (hk : s_kd k = 6) (S : s_St G σ H0 H locs) {q : Nat} (hf : s_fin k 5 = q) (hdg : decode cc pc = .ok (.getfield idx, 3)) (kk : W p l e R s m args below meth c H locs cells slots Q (F0 m (pc + 3) ls (.ref (G.2.2 + q) :: rest))) : W p l e R s m args below meth c H locs cells slots Q (F0 m pc ls (.ref (G.2.2 + k) :: rest)) := by
  subst hf
  have he := s_at G σ hk (by decide)
  rw [s_cl, s_cell, hk] at he
  exact va_getN (D := G.1) (cl := vwCl) (C := RX6) (T := TX6) (N := 8) (ci := 6) C.1 C.2.1 C.2.2.2.1 inlX6 C.2.2.1 C.2.2.2.2.1 S.1 k he rfl 5 (by decide) (va_Nw.use (nest_on (nest_is _ hlink)) (C.2.2.2.2.2 _ hlink)) (fun _ h => h) rfl hdg kk
theorem g_X6_6 (C : s_C G p s args m c own cc) (hlink : Cond.fieldLink own idx "PhraseReader" "reading" "LPhraseReader$Reading;" ∈ wL) (hk : s_kd k = 6) (S : s_St G σ H0 H locs) {q : Nat} (hf : s_fin k 6 = q) (hdg : decode cc pc = .ok (.getfield idx, 3)) (kk : W p l e R s m args below meth c H locs cells slots Q (F0 m (pc + 3) ls (.ref (G.2.2 + q) :: rest))) : W p l e R s m args below meth c H locs cells slots Q (F0 m pc ls (.ref (G.2.2 + k) :: rest)) := by
  subst hf
  have he := s_at G σ hk (by decide)
  rw [s_cl, s_cell, hk] at he
  exact va_get (D := G.1) (cl := vwCl) (C := RX6) (T := TX6) (N := 8) (ci := 6) C.1 C.2.1 C.2.2.2.1 inlX6 C.2.2.1 C.2.2.2.2.1 S.1 k he rfl 6 (by decide) ((C.2.2.2.1 _ hlink)) (fun _ h => h) rfl hdg kk
theorem gn_X6_6 (C : s_C G p s args m c own cc) (hlink : Cond.fieldLinkNest own idx "PhraseReader" "reading" "LPhraseReader$Reading;" "PhraseReader" ∈ nestW) (hk : s_kd k = 6) (S : s_St G σ H0 H locs) {q : Nat} (hf : s_fin k 6 = q) (hdg : decode cc pc = .ok (.getfield idx, 3)) (kk : W p l e R s m args below meth c H locs cells slots Q (F0 m (pc + 3) ls (.ref (G.2.2 + q) :: rest))) : W p l e R s m args below meth c H locs cells slots Q (F0 m pc ls (.ref (G.2.2 + k) :: rest)) := by
  subst hf
  have he := s_at G σ hk (by decide)
  rw [s_cl, s_cell, hk] at he
  exact va_getN (D := G.1) (cl := vwCl) (C := RX6) (T := TX6) (N := 8) (ci := 6) C.1 C.2.1 C.2.2.2.1 inlX6 C.2.2.1 C.2.2.2.2.1 S.1 k he rfl 6 (by decide) (va_Nw.use (nest_on (nest_is _ hlink)) (C.2.2.2.2.2 _ hlink)) (fun _ h => h) rfl hdg kk
theorem g_X6_7 (C : s_C G p s args m c own cc) (hlink : Cond.fieldLink own idx "PhraseReader" "orderTable" "LPhraseReader$OrderTable;" ∈ wL) (hk : s_kd k = 6) (S : s_St G σ H0 H locs) {q : Nat} (hf : s_fin k 7 = q) (hdg : decode cc pc = .ok (.getfield idx, 3)) (kk : W p l e R s m args below meth c H locs cells slots Q (F0 m (pc + 3) ls (.ref (G.2.2 + q) :: rest))) : W p l e R s m args below meth c H locs cells slots Q (F0 m pc ls (.ref (G.2.2 + k) :: rest)) := by
  subst hf
  have he := s_at G σ hk (by decide)
  rw [s_cl, s_cell, hk] at he
  exact va_get (D := G.1) (cl := vwCl) (C := RX6) (T := TX6) (N := 8) (ci := 6) C.1 C.2.1 C.2.2.2.1 inlX6 C.2.2.1 C.2.2.2.2.1 S.1 k he rfl 7 (by decide) ((C.2.2.2.1 _ hlink)) (fun _ h => h) rfl hdg kk
theorem gn_X6_7 (C : s_C G p s args m c own cc) (hlink : Cond.fieldLinkNest own idx "PhraseReader" "orderTable" "LPhraseReader$OrderTable;" "PhraseReader" ∈ nestW) (hk : s_kd k = 6) (S : s_St G σ H0 H locs) {q : Nat} (hf : s_fin k 7 = q) (hdg : decode cc pc = .ok (.getfield idx, 3)) (kk : W p l e R s m args below meth c H locs cells slots Q (F0 m (pc + 3) ls (.ref (G.2.2 + q) :: rest))) : W p l e R s m args below meth c H locs cells slots Q (F0 m pc ls (.ref (G.2.2 + k) :: rest)) := by
  subst hf
  have he := s_at G σ hk (by decide)
  rw [s_cl, s_cell, hk] at he
  exact va_getN (D := G.1) (cl := vwCl) (C := RX6) (T := TX6) (N := 8) (ci := 6) C.1 C.2.1 C.2.2.2.1 inlX6 C.2.2.1 C.2.2.2.2.1 S.1 k he rfl 7 (by decide) (va_Nw.use (nest_on (nest_is _ hlink)) (C.2.2.2.2.2 _ hlink)) (fun _ h => h) rfl hdg kk
theorem a_ild (C : s_C G p s args m c own cc) (hk : s_kd k = 8) (S : s_St G σ H0 H locs) {i : Int32} {n : Nat} (hn : s_len k = n) (hin : vp_in i n) (hdg : decode cc pc = .ok (.iaload, 1)) (kk : W p l e R s m args below meth c H locs cells slots Q (F0 m (pc + 1) ls (.int (σ.1 k i.toNatClampNeg) :: rest))) : W p l e R s m args below meth c H locs cells slots Q (F0 m pc ls (.int i :: .ref (G.2.2 + k) :: rest)) := by
  subst hn
  have he := s_at G σ hk (by decide)
  rw [s_cl, s_cell, hk] at he
  exact va_iald (D := G.1) (cl := vwCl) C.1 C.2.1 C.2.2.2.2.1 S.1 k 0 he rfl hin hdg kk
theorem a_lld (C : s_C G p s args m c own cc) (hk : s_kd k = 9) (S : s_St G σ H0 H locs) {i : Int32} {n : Nat} (hn : s_len k = n) (hin : vp_in i n) (hdg : decode cc pc = .ok (.laload, 1)) (kk : W p l e R s m args below meth c H locs cells slots Q (F0 m (pc + 1) ls (.long (σ.2.1 k i.toNatClampNeg) :: rest))) : W p l e R s m args below meth c H locs cells slots Q (F0 m pc ls (.int i :: .ref (G.2.2 + k) :: rest)) := by
  subst hn
  have he := s_at G σ hk (by decide)
  rw [s_cl, s_cell, hk] at he
  exact va_lald (D := G.1) (cl := vwCl) C.1 C.2.1 C.2.2.2.2.1 S.1 k 1 he rfl hin hdg kk
theorem a_zld (C : s_C G p s args m c own cc) (hk : s_kd k = 10) (S : s_St G σ H0 H locs) {i : Int32} {n : Nat} (hn : s_len k = n) (hin : vp_in i n) (hdg : decode cc pc = .ok (.baload, 1)) (kk : W p l e R s m args below meth c H locs cells slots Q (F0 m (pc + 1) ls (.int (σ.1 k i.toNatClampNeg) :: rest))) : W p l e R s m args below meth c H locs cells slots Q (F0 m pc ls (.int i :: .ref (G.2.2 + k) :: rest)) := by
  subst hn
  have he := s_at G σ hk (by decide)
  rw [s_cl, s_cell, hk] at he
  exact va_zald (D := G.1) (cl := vwCl) C.1 C.2.1 C.2.2.2.2.1 S.1 k 2 he rfl hin hdg kk
theorem a_mld (C : s_C G p s args m c own cc) (hk : s_kd k = 11) (S : s_St G σ H0 H locs) {i : Int32} {n : Nat} (hn : s_len k = n) (hin : vp_in i n) (hdg : decode cc pc = .ok (.aaload, 1)) (kk : W p l e R s m args below meth c H locs cells slots Q (F0 m (pc + 1) ls (.ref (G.2.2 + σ.2.2 k i.toNatClampNeg) :: rest))) : W p l e R s m args below meth c H locs cells slots Q (F0 m pc ls (.int i :: .ref (G.2.2 + k) :: rest)) := by
  subst hn
  have he := s_at G σ hk (by decide)
  rw [s_cl, s_cell, hk] at he
  exact va_aldq (D := G.1) (cl := vwCl) C.1 C.2.1 C.2.2.2.2.1 S.1 k 3 he rfl hin hdg kk
theorem a_dld (C : s_C G p s args m c own cc) (hk : s_kd k = 12) (S : s_St G σ H0 H locs) {i : Int32} {n : Nat} (hn : s_len k = n) (hin : vp_in i n) (hdg : decode cc pc = .ok (.aaload, 1)) (kk : W p l e R s m args below meth c H locs cells slots Q (F0 m (pc + 1) ls (.ref (G.2.2 + σ.2.2 k i.toNatClampNeg) :: rest))) : W p l e R s m args below meth c H locs cells slots Q (F0 m pc ls (.int i :: .ref (G.2.2 + k) :: rest)) := by
  subst hn
  have he := s_at G σ hk (by decide)
  rw [s_cl, s_cell, hk] at he
  exact va_aldq (D := G.1) (cl := vwCl) C.1 C.2.1 C.2.2.2.2.1 S.1 k 4 he rfl hin hdg kk
theorem a_ist (C : s_C G p s args m c own cc) (hk : s_kd k = 8) (S : s_St G σ H0 H locs) {i : Int32} {v : Int32} {n : Nat} (hn : s_len k = n) (hin : vp_in i n) (hdg : decode cc pc = .ok (.iastore, 1)) (kk : ∀ (σ1 : Sg) (H1 : Heap) (locs1 : List Loc), σ1 = setI σ k i.toNatClampNeg v → s_St G σ1 H0 H1 locs1 → W p l e R s m args below meth c H1 locs1 cells slots Q (F0 m (pc + 1) ls rest)) : W p l e R s m args below meth c H locs cells slots Q (F0 m pc ls (.int v :: .int i :: .ref (G.2.2 + k) :: rest)) := by
  subst hn
  have he := s_at G σ hk (by decide)
  rw [s_cl, s_cell, hk] at he
  refine va_iast (D := G.1) (cl := vwCl) C.1 C.2.1 C.2.2.2.2.1 S.1 (s_D G σ) S.2.1 k 0 he rfl hin hdg (fun H1 locs1 hP _ hS => ?_)
  refine kk _ H1 locs1 rfl ⟨?_, hS, s_rokI S.2.2 k _ v⟩
  rw [s_set (G := G) (σ := σ) (σ' := setI σ k i.toNatClampNeg v) (s_kd_lt hk (by decide)) (fun q hq => by show s_cell G (upd2 σ.1 k i.toNatClampNeg v q) _ _ q = _; rw [upd2_ne hq]; rfl) (by show s_cell G (upd2 σ.1 k i.toNatClampNeg v k) _ _ k = _; rw [s_cell, hk, upd2_row]; rfl)] at hP
  exact hP
theorem a_zst (C : s_C G p s args m c own cc) (hk : s_kd k = 10) (S : s_St G σ H0 H locs) {i : Int32} {v : Int32} {n : Nat} (hn : s_len k = n) (hin : vp_in i n) (hdg : decode cc pc = .ok (.bastore, 1)) (kk : ∀ (σ1 : Sg) (H1 : Heap) (locs1 : List Loc), σ1 = setI σ k i.toNatClampNeg (vp_nar .boolean v) → s_St G σ1 H0 H1 locs1 → W p l e R s m args below meth c H1 locs1 cells slots Q (F0 m (pc + 1) ls rest)) : W p l e R s m args below meth c H locs cells slots Q (F0 m pc ls (.int v :: .int i :: .ref (G.2.2 + k) :: rest)) := by
  subst hn
  have he := s_at G σ hk (by decide)
  rw [s_cl, s_cell, hk] at he
  refine va_zast (D := G.1) (cl := vwCl) C.1 C.2.1 C.2.2.2.2.1 S.1 (s_D G σ) S.2.1 k 2 he rfl hin hdg (fun H1 locs1 hP _ hS => ?_)
  refine kk _ H1 locs1 rfl ⟨?_, hS, s_rokI S.2.2 k _ _⟩
  rw [s_set (G := G) (σ := σ) (σ' := setI σ k i.toNatClampNeg (vp_nar .boolean v)) (s_kd_lt hk (by decide)) (fun q hq => by show s_cell G (upd2 σ.1 k i.toNatClampNeg (vp_nar .boolean v) q) _ _ q = _; rw [upd2_ne hq]; rfl) (by show s_cell G (upd2 σ.1 k i.toNatClampNeg (vp_nar .boolean v) k) _ _ k = _; rw [s_cell, hk, upd2_row]; rfl)] at hP
  exact hP
theorem a_lst (C : s_C G p s args m c own cc) (hk : s_kd k = 9) (S : s_St G σ H0 H locs) {i : Int32} {v : Int64} {n : Nat} (hn : s_len k = n) (hin : vp_in i n) (hdg : decode cc pc = .ok (.lastore, 1)) (kk : ∀ (σ1 : Sg) (H1 : Heap) (locs1 : List Loc), σ1 = setL σ k i.toNatClampNeg v → s_St G σ1 H0 H1 locs1 → W p l e R s m args below meth c H1 locs1 cells slots Q (F0 m (pc + 1) ls rest)) : W p l e R s m args below meth c H locs cells slots Q (F0 m pc ls (.long v :: .int i :: .ref (G.2.2 + k) :: rest)) := by
  subst hn
  have he := s_at G σ hk (by decide)
  rw [s_cl, s_cell, hk] at he
  refine va_last (D := G.1) (cl := vwCl) C.1 C.2.1 C.2.2.2.2.1 S.1 (s_D G σ) S.2.1 k 1 he rfl hin hdg (fun H1 locs1 hP _ hS => ?_)
  refine kk _ H1 locs1 rfl ⟨?_, hS, s_rokL S.2.2 k _ v⟩
  rw [s_set (G := G) (σ := σ) (σ' := setL σ k i.toNatClampNeg v) (s_kd_lt hk (by decide)) (fun q hq => by show s_cell G _ (upd2 σ.2.1 k i.toNatClampNeg v q) _ q = _; rw [upd2_ne hq]; rfl) (by show s_cell G _ (upd2 σ.2.1 k i.toNatClampNeg v k) _ k = _; rw [s_cell, hk, upd2_row]; rfl)] at hP
  exact hP
theorem a_mst (C : s_C G p s args m c own cc) (hk : s_kd k = 11) (S : s_St G σ H0 H locs) {i : Int32} {v : Nat} (hv : s_kd v = 3) {n : Nat} (hn : s_len k = n) (hin : vp_in i n) (hdg : decode cc pc = .ok (.aastore, 1)) (kk : ∀ (σ1 : Sg) (H1 : Heap) (locs1 : List Loc), σ1 = setR σ k i.toNatClampNeg v → s_St G σ1 H0 H1 locs1 → W p l e R s m args below meth c H1 locs1 cells slots Q (F0 m (pc + 1) ls rest)) : W p l e R s m args below meth c H locs cells slots Q (F0 m pc ls (.ref (G.2.2 + v) :: .int i :: .ref (G.2.2 + k) :: rest)) := by
  subst hn
  have he := s_at G σ hk (by decide)
  rw [s_cl, s_cell, hk] at he
  have hev := s_at G σ hv (by decide)
  rw [s_cl, s_cell, hv] at hev
  refine va_astq (D := G.1) (cl := vwCl) (r := (RX3, TX3, 6)) C.1 C.2.1 C.2.2.2.2.1 S.1 (s_D G σ) S.2.1 k 3 v 3 he rfl hev rfl hin hdg (fun H1 locs1 hP _ hS => ?_)
  refine kk _ H1 locs1 rfl ⟨?_, hS, s_rokR S.2.2 _ (fun h => by rw [hk] at h; exact hv) (fun h => by rw [hk] at h; cases h)⟩
  rw [s_set (G := G) (σ := σ) (σ' := setR σ k i.toNatClampNeg v) (s_kd_lt hk (by decide)) (fun q hq => by show s_cell G _ _ (upd2 σ.2.2 k i.toNatClampNeg v q) q = _; rw [upd2_ne hq]; rfl) (by show s_cell G _ _ (upd2 σ.2.2 k i.toNatClampNeg v k) k = _; rw [s_cell, hk, upd2_row]; show Sum.inl _ = Sum.inl _; congr 7; funext b; by_cases h9 : b = i.toNatClampNeg <;> simp [va_up, h9])] at hP
  exact hP
theorem a_dst (C : s_C G p s args m c own cc) (hk : s_kd k = 12) (S : s_St G σ H0 H locs) {i : Int32} {v : Nat} (hv : s_kd v = 1) {n : Nat} (hn : s_len k = n) (hin : vp_in i n) (hdg : decode cc pc = .ok (.aastore, 1)) (kk : ∀ (σ1 : Sg) (H1 : Heap) (locs1 : List Loc), σ1 = setR σ k i.toNatClampNeg v → s_St G σ1 H0 H1 locs1 → W p l e R s m args below meth c H1 locs1 cells slots Q (F0 m (pc + 1) ls rest)) : W p l e R s m args below meth c H locs cells slots Q (F0 m pc ls (.ref (G.2.2 + v) :: .int i :: .ref (G.2.2 + k) :: rest)) := by
  subst hn
  have he := s_at G σ hk (by decide)
  rw [s_cl, s_cell, hk] at he
  have hev := s_at G σ hv (by decide)
  rw [s_cl, s_cell, hv] at hev
  refine va_astq (D := G.1) (cl := vwCl) (r := (RX1, TX1, 4)) C.1 C.2.1 C.2.2.2.2.1 S.1 (s_D G σ) S.2.1 k 4 v 1 he rfl hev rfl hin hdg (fun H1 locs1 hP _ hS => ?_)
  refine kk _ H1 locs1 rfl ⟨?_, hS, s_rokR S.2.2 _ (fun h => by rw [hk] at h; cases h) (fun h => by rw [hk] at h; exact hv)⟩
  rw [s_set (G := G) (σ := σ) (σ' := setR σ k i.toNatClampNeg v) (s_kd_lt hk (by decide)) (fun q hq => by show s_cell G _ _ (upd2 σ.2.2 k i.toNatClampNeg v q) q = _; rw [upd2_ne hq]; rfl) (by show s_cell G _ _ (upd2 σ.2.2 k i.toNatClampNeg v k) k = _; rw [s_cell, hk, upd2_row]; show Sum.inl _ = Sum.inl _; congr 7; funext b; by_cases h9 : b = i.toNatClampNeg <;> simp [va_up, h9])] at hP
  exact hP
theorem a_len8 (C : s_C G p s args m c own cc) (hk : s_kd k = 8) (S : s_St G σ H0 H locs) {v : Int32} (hn : Int32.ofNat (s_len k) = v) (hdg : decode cc pc = .ok (.arraylength, 1)) (kk : W p l e R s m args below meth c H locs cells slots Q (F0 m (pc + 1) ls (.int v :: rest))) : W p l e R s m args below meth c H locs cells slots Q (F0 m pc ls (.ref (G.2.2 + k) :: rest)) := by
  have he := s_at G σ hk (by decide)
  rw [s_cl, s_cell, hk] at he
  exact va_alen (D := G.1) (cl := vwCl) C.1 C.2.1 C.2.2.2.2.1 S.1 k 0 he rfl hn hdg kk
theorem a_len9 (C : s_C G p s args m c own cc) (hk : s_kd k = 9) (S : s_St G σ H0 H locs) {v : Int32} (hn : Int32.ofNat (s_len k) = v) (hdg : decode cc pc = .ok (.arraylength, 1)) (kk : W p l e R s m args below meth c H locs cells slots Q (F0 m (pc + 1) ls (.int v :: rest))) : W p l e R s m args below meth c H locs cells slots Q (F0 m pc ls (.ref (G.2.2 + k) :: rest)) := by
  have he := s_at G σ hk (by decide)
  rw [s_cl, s_cell, hk] at he
  exact va_alen (D := G.1) (cl := vwCl) C.1 C.2.1 C.2.2.2.2.1 S.1 k 1 he rfl hn hdg kk
theorem a_len10 (C : s_C G p s args m c own cc) (hk : s_kd k = 10) (S : s_St G σ H0 H locs) {v : Int32} (hn : Int32.ofNat (s_len k) = v) (hdg : decode cc pc = .ok (.arraylength, 1)) (kk : W p l e R s m args below meth c H locs cells slots Q (F0 m (pc + 1) ls (.int v :: rest))) : W p l e R s m args below meth c H locs cells slots Q (F0 m pc ls (.ref (G.2.2 + k) :: rest)) := by
  have he := s_at G σ hk (by decide)
  rw [s_cl, s_cell, hk] at he
  exact va_alen (D := G.1) (cl := vwCl) C.1 C.2.1 C.2.2.2.2.1 S.1 k 2 he rfl hn hdg kk
theorem a_len11 (C : s_C G p s args m c own cc) (hk : s_kd k = 11) (S : s_St G σ H0 H locs) {v : Int32} (hn : Int32.ofNat (s_len k) = v) (hdg : decode cc pc = .ok (.arraylength, 1)) (kk : W p l e R s m args below meth c H locs cells slots Q (F0 m (pc + 1) ls (.int v :: rest))) : W p l e R s m args below meth c H locs cells slots Q (F0 m pc ls (.ref (G.2.2 + k) :: rest)) := by
  have he := s_at G σ hk (by decide)
  rw [s_cl, s_cell, hk] at he
  exact va_alen (D := G.1) (cl := vwCl) C.1 C.2.1 C.2.2.2.2.1 S.1 k 3 he rfl hn hdg kk
theorem a_len12 (C : s_C G p s args m c own cc) (hk : s_kd k = 12) (S : s_St G σ H0 H locs) {v : Int32} (hn : Int32.ofNat (s_len k) = v) (hdg : decode cc pc = .ok (.arraylength, 1)) (kk : W p l e R s m args below meth c H locs cells slots Q (F0 m (pc + 1) ls (.int v :: rest))) : W p l e R s m args below meth c H locs cells slots Q (F0 m pc ls (.ref (G.2.2 + k) :: rest)) := by
  have he := s_at G σ hk (by decide)
  rw [s_cl, s_cell, hk] at he
  exact va_alen (D := G.1) (cl := vwCl) C.1 C.2.1 C.2.2.2.2.1 S.1 k 4 he rfl hn hdg kk
theorem r_V {y : MethodName} {maxL nL np ci N : Nat} {T : u_T} {ret : Option FieldType} {rm : Room} {Qc : Array Value → State → Outcome → State → Prop} {As : List Value} (C : s_C G p s args m c own cc) (hml : c.maxLocals = nL) (hM : Met l y (wsU y bytes maxL ret) rm (va_Pc (.ref (G.2.2 + k) :: As) (s_Pre G σ)) Qc 0 0 (s_A G.2.2)) (hy : s_M y bytes maxL ret np) (him : Cond.instanceMethod y ∈ wL) (hse : Cond.selects y.cls y y ∈ wL) (hlink : Cond.methodLink own idx y ∈ wL) (hrm : rm.cells = 0 ∧ rm.slots = 0) (hR : rm.frames + 1 ≤ R.frames ∧ 8 + (maxL + 11) + rm.locals ≤ R.locals) (hf : cells ≤ R.cells ∧ slots ≤ R.slots)
    (S : s_V G σ H) (hk : s_kd k = ci) (hc : ci < 7) (hcl : vwCl[ci]? = some (y.cls, T, N)) (hn : As.length = np) (hsize : ls.size = nL) (hst : st0 = As.reverse ++ .ref (G.2.2 + k) :: rest) (hW : (rest.map fun v => v.category).sum ≤ 8) (hdg : decode cc pc = .ok (.invokevirtual idx, 3)) : va_Run p l e R s m args below meth c H locs cells slots 0 0 (F0 m pc ls st0) rest (Qc (Value.ref (G.2.2 + k) :: As).toArray) (s_A G.2.2) := by
  have he := s_at G σ hk (by omega)
  obtain ⟨cellB, q1, q2, q3⟩ : ∃ cell : Cell, H[G.2.2 + k]? = some cell ∧ cell.vm.isStatics = false ∧ s.vm.findClass y.cls = some cell.cls := by
    obtain ⟨fs, hfs⟩ : ∃ fs, s_cl G σ k = .inr (ci, fs) := by
      unfold s_cl s_cell
      rw [hk]
      rcases (show ci = 0 ∨ ci = 1 ∨ ci = 2 ∨ ci = 3 ∨ ci = 4 ∨ ci = 5 ∨ ci = 6 by omega) with rfl | rfl | rfl | rfl | rfl | rfl | rfl <;> exact ⟨_, rfl⟩
    rw [hfs] at he
    exact va_recv C.2.2.2.2.1 S.1 hcl he
  exact va_runV (As := As) (rest := rest) ⟨C.1, C.2.1, hml, C.2.2.1, C.2.2.2.1⟩ hM ⟨callB_of np C.2.2.2.1 (good_U hy) rfl hrm.1 hrm.2 (C.2.2.2.1 _ hy.2.1) (C.2.2.2.1 _ hlink) hy.2.2 hR, C.2.2.2.1 _ him, C.2.2.2.1 _ hse⟩ ⟨s_Pre.blind G σ _, ⟨cellB, q1, q2, q3⟩, fun U hU hW => ⟨rfl, by rw [hU]; exact S.1, S.2, va_K.moved hW.alike C.2.2.2.2.1, C.2.2.2.2.2.moved hW⟩⟩ rfl hn hsize hst (lv_room hW) hdg hf
theorem r_VN {y : MethodName} {maxL nL np ci N : Nat} {T : u_T} {ret : Option FieldType} {rm : Room} {Qc : Array Value → State → Outcome → State → Prop} {As : List Value} (C : s_C G p s args m c own cc) (hml : c.maxLocals = nL) (hM : Met l y (wsU y bytes maxL ret) rm (va_Pc (.ref (G.2.2 + k) :: As) (s_Pre G σ)) Qc 0 0 (s_A G.2.2)) (hy : s_M y bytes maxL ret np) (him : Cond.instanceMethod y ∈ wL) (hse : Cond.selects y.cls y y ∈ wL) (hlink : Cond.methodLinkNest own idx y "PhraseReader" ∈ nestW) (hrm : rm.cells = 0 ∧ rm.slots = 0) (hR : rm.frames + 1 ≤ R.frames ∧ 8 + (maxL + 11) + rm.locals ≤ R.locals) (hf : cells ≤ R.cells ∧ slots ≤ R.slots)
    (S : s_V G σ H) (hk : s_kd k = ci) (hc : ci < 7) (hcl : vwCl[ci]? = some (y.cls, T, N)) (hn : As.length = np) (hsize : ls.size = nL) (hst : st0 = As.reverse ++ .ref (G.2.2 + k) :: rest) (hW : (rest.map fun v => v.category).sum ≤ 8) (hdg : decode cc pc = .ok (.invokevirtual idx, 3)) : va_Run p l e R s m args below meth c H locs cells slots 0 0 (F0 m pc ls st0) rest (Qc (Value.ref (G.2.2 + k) :: As).toArray) (s_A G.2.2) := by
  have he := s_at G σ hk (by omega)
  obtain ⟨cellB, q1, q2, q3⟩ : ∃ cell : Cell, H[G.2.2 + k]? = some cell ∧ cell.vm.isStatics = false ∧ s.vm.findClass y.cls = some cell.cls := by
    obtain ⟨fs, hfs⟩ : ∃ fs, s_cl G σ k = .inr (ci, fs) := by
      unfold s_cl s_cell
      rw [hk]
      rcases (show ci = 0 ∨ ci = 1 ∨ ci = 2 ∨ ci = 3 ∨ ci = 4 ∨ ci = 5 ∨ ci = 6 by omega) with rfl | rfl | rfl | rfl | rfl | rfl | rfl <;> exact ⟨_, rfl⟩
    rw [hfs] at he
    exact va_recv C.2.2.2.2.1 S.1 hcl he
  exact va_runVN (As := As) (rest := rest) ⟨C.1, C.2.1, hml, C.2.2.1, C.2.2.2.1⟩ hM ⟨va_cnB np C.2.2.2.1 (good_U hy) rfl hrm.1 hrm.2 (C.2.2.2.2.2 _ hlink) (C.2.2.2.1 _ hy.2.1) hy.2.2 hR, C.2.2.2.1 _ him, C.2.2.2.1 _ hse⟩ ⟨s_Pre.blind G σ _, ⟨cellB, q1, q2, q3⟩, fun U hU hW => ⟨rfl, by rw [hU]; exact S.1, S.2, va_K.moved hW.alike C.2.2.2.2.1, C.2.2.2.2.2.moved hW⟩⟩ rfl hn hsize hst (lv_room hW) hdg hf
theorem r_S {y : MethodName} {maxL nL np : Nat} {ret : Option FieldType} {rm : Room} {Qc : Array Value → State → Outcome → State → Prop} {As : List Value} (C : s_C G p s args m c own cc) (hml : c.maxLocals = nL) (hM : Met l y (wsU y bytes maxL ret) rm (va_Pc As (s_Pre G σ)) Qc 0 0 (s_A G.2.2)) (hy : s_M y bytes maxL ret np) (hst1 : Cond.static y ∈ wL) (hlink : Cond.methodLink own idx y ∈ wL) (hrm : rm.cells = 0 ∧ rm.slots = 0) (hR : rm.frames + 1 ≤ R.frames ∧ 8 + (maxL + 11) + rm.locals ≤ R.locals) (hf : cells ≤ R.cells ∧ slots ≤ R.slots)
    (S : s_V G σ H) (hn : As.length = np) (hsize : ls.size = nL) (hst : st0 = As.reverse ++ rest) (hW : (rest.map fun v => v.category).sum ≤ 8) (hdg : decode cc pc = .ok (.invokestatic idx, 3)) : va_Run p l e R s m args below meth c H locs cells slots 0 0 (F0 m pc ls st0) rest (Qc As.toArray) (s_A G.2.2) :=
  va_runS (As := As) (rest := rest) ⟨C.1, C.2.1, hml, C.2.2.1, C.2.2.2.1⟩ hM ⟨callB_of np C.2.2.2.1 (good_U hy) rfl hrm.1 hrm.2 (C.2.2.2.1 _ hy.2.1) (C.2.2.2.1 _ hlink) hy.2.2 hR, C.2.2.2.1 _ hst1⟩ ⟨s_Pre.blind G σ _, fun U hU hW => ⟨rfl, by rw [hU]; exact S.1, S.2, va_K.moved hW.alike C.2.2.2.2.1, C.2.2.2.2.2.moved hW⟩⟩ rfl hn hsize hst (lv_room hW) hdg hf
theorem r_SN {y : MethodName} {maxL nL np : Nat} {ret : Option FieldType} {rm : Room} {Qc : Array Value → State → Outcome → State → Prop} {As : List Value} (C : s_C G p s args m c own cc) (hml : c.maxLocals = nL) (hM : Met l y (wsU y bytes maxL ret) rm (va_Pc As (s_Pre G σ)) Qc 0 0 (s_A G.2.2)) (hy : s_M y bytes maxL ret np) (hst1 : Cond.static y ∈ wL) (hlink : Cond.methodLinkNest own idx y "PhraseReader" ∈ nestW) (hrm : rm.cells = 0 ∧ rm.slots = 0) (hR : rm.frames + 1 ≤ R.frames ∧ 8 + (maxL + 11) + rm.locals ≤ R.locals) (hf : cells ≤ R.cells ∧ slots ≤ R.slots)
    (S : s_V G σ H) (hn : As.length = np) (hsize : ls.size = nL) (hst : st0 = As.reverse ++ rest) (hW : (rest.map fun v => v.category).sum ≤ 8) (hdg : decode cc pc = .ok (.invokestatic idx, 3)) : va_Run p l e R s m args below meth c H locs cells slots 0 0 (F0 m pc ls st0) rest (Qc As.toArray) (s_A G.2.2) :=
  va_runSN (As := As) (rest := rest) ⟨C.1, C.2.1, hml, C.2.2.1, C.2.2.2.1⟩ hM ⟨va_cnB np C.2.2.2.1 (good_U hy) rfl hrm.1 hrm.2 (C.2.2.2.2.2 _ hlink) (C.2.2.2.1 _ hy.2.1) hy.2.2 hR, C.2.2.2.1 _ hst1, trivial⟩ ⟨s_Pre.blind G σ _, fun U hU hW => ⟨rfl, by rw [hU]; exact S.1, S.2, va_K.moved hW.alike C.2.2.2.2.1, C.2.2.2.2.2.moved hW⟩⟩ rfl hn hsize hst (lv_room hW) hdg hf
theorem k_i {post : Int32 → Sg → Prop} {a : Array Value} (hr : va_Run p l e R s m args below meth c H locs cells slots 0 0 (F0 m pc ls st0) rest (va_Qi post (s_B G) (s_A G.2.2) a) (s_A G.2.2)) (S : s_St G σ H0 H locs)
    (kk : ∀ (r : Int32) (σ1 : Sg) (H1 : Heap) (locs1 : List Loc), post r σ1 → s_St G σ1 H0 H1 locs1 → W p l e R s m args below meth c H1 locs1 cells slots Q (F0 m (pc + 3) ls (.int r :: rest))) : W p l e R s m args below meth c H locs cells slots Q (F0 m pc ls st0) :=
  va_calli hr S.2.1 (fun _ _ h => h) (fun _ h => h) (fun r u t H1 locs1 ht _ hw hB _ _ hS => kk r u H1 locs1 hw ⟨by rw [← ht]; exact hB.1, hS, hB.2⟩)
theorem k_l {post : Int64 → Sg → Prop} {a : Array Value} (hr : va_Run p l e R s m args below meth c H locs cells slots 0 0 (F0 m pc ls st0) rest (va_Ql post (s_B G) (s_A G.2.2) a) (s_A G.2.2)) (S : s_St G σ H0 H locs)
    (kk : ∀ (r : Int64) (σ1 : Sg) (H1 : Heap) (locs1 : List Loc), post r σ1 → s_St G σ1 H0 H1 locs1 → W p l e R s m args below meth c H1 locs1 cells slots Q (F0 m (pc + 3) ls (.long r :: rest))) : W p l e R s m args below meth c H locs cells slots Q (F0 m pc ls st0) :=
  va_calll hr S.2.1 (fun _ _ h => h) (fun _ h => h) (fun r u t H1 locs1 ht _ hw hB _ _ hS => kk r u H1 locs1 hw ⟨by rw [← ht]; exact hB.1, hS, hB.2⟩)
theorem k_v {post : Sg → Prop} {a : Array Value} (hr : va_Run p l e R s m args below meth c H locs cells slots 0 0 (F0 m pc ls st0) rest (va_Qv post (s_B G) (s_A G.2.2) a) (s_A G.2.2)) (S : s_St G σ H0 H locs)
    (kk : ∀ (σ1 : Sg) (H1 : Heap) (locs1 : List Loc), post σ1 → s_St G σ1 H0 H1 locs1 → W p l e R s m args below meth c H1 locs1 cells slots Q (F0 m (pc + 3) ls rest)) : W p l e R s m args below meth c H locs cells slots Q (F0 m pc ls st0) :=
  va_callv hr S.2.1 (fun _ _ h => h) (fun _ h => h) (fun u t H1 locs1 ht _ hw hB _ _ hS => kk u H1 locs1 hw ⟨by rw [← ht]; exact hB.1, hS, hB.2⟩)
def s_Br (G : s_G) (kd : Nat) (u : Nat × Sg) (a : Nat) (t : State) : Prop := a = G.2.2 + u.1 ∧ s_kd u.1 = kd ∧ va_P G.1 vwCl (s_W G u.2) t.heap ∧ s_rok u.2
theorem k_r {kd : Nat} {post : Nat × Sg → Prop} {a : Array Value} (hr : va_Run p l e R s m args below meth c H locs cells slots 0 0 (F0 m pc ls st0) rest (va_Qr post (s_Br G kd) (s_A G.2.2) a) (s_A G.2.2)) (S : s_St G σ H0 H locs)
    (kk : ∀ (q : Nat) (σ1 : Sg) (H1 : Heap) (locs1 : List Loc), s_kd q = kd → post (q, σ1) → s_St G σ1 H0 H1 locs1 → W p l e R s m args below meth c H1 locs1 cells slots Q (F0 m (pc + 3) ls (.ref (G.2.2 + q) :: rest))) : W p l e R s m args below meth c H locs cells slots Q (F0 m pc ls st0) :=
  va_callr hr S.2.1 (fun _ _ h => h) (fun _ h => h) (fun u ra t H1 locs1 ht _ hw hB _ _ hS => by
    obtain ⟨q, σ1⟩ := u
    obtain ⟨rfl, h2, h3, h4⟩ := hB
    exact kk q σ1 H1 locs1 h2 hw ⟨by rw [← ht]; exact h3, hS, h4⟩)
end BASE
/-! two readers: the second one's cells lie behind the first one's -/
abbrev gq (G : s_G) : s_G := (G.1, G.2.1, G.2.2 + 117)
abbrev Sg2 : Type := Sg × Sg
def t_St (G : s_G) (σ : Sg2) (H0 H : Heap) (locs : List Loc) : Prop := s_V G σ.1 H ∧ s_V (gq G) σ.2 H ∧ va_S (c_A G.2.2) H0 H locs
def t_Pre (G : s_G) (σ : Sg2) (U : State) : Prop := s_V G σ.1 U.heap ∧ s_V (gq G) σ.2 U.heap ∧ va_K G.1 vwCl (s_tys G) U ∧ nestOK U
def t_B (G : s_G) (σ : Sg2) (t : State) : Prop := s_V G σ.1 t.heap ∧ s_V (gq G) σ.2 t.heap
theorem t_Pre.blind (G : s_G) (σ : Sg2) (av : List Value) : FrameBlind (va_Pc av (t_Pre G σ)) := fun a U g mk q => by
  obtain ⟨q0, qP, qR, qK, qN⟩ := q
  exact ⟨q0, qP, qR, va_K.moved (u := U) (U := U.calling g mk a) (Vm.Alike.refl U.vm) qK, nestOK.same (s := U) (U := U.calling g mk a) rfl qN⟩
theorem s_W_at {G : s_G} {σ : Sg} {k : Nat} {q : Nat × va_E} (h : (s_W G σ)[k]? = some q) : s_A G.2.2 q.1 := (s_D G σ).2 k q h
theorem s_V.kept {G : s_G} {σ : Sg} {H H1 : Heap} (h : s_V G σ H) {A : Nat → Prop} (hA : ∀ q, s_A G.2.2 q → ¬ A q) (hk : ∀ q : Nat, q < H.size → ¬ A q → H1[q]? = H[q]?) : s_V G σ H1 := ⟨h.1.kept fun k q hq => hk q.1 (h.1 k q hq).lt (hA _ (s_W_at hq)), h.2⟩
theorem s_A12 {G : s_G} : ∀ q, s_A (gq G).2.2 q → ¬ s_A G.2.2 q := fun q h w => by
  have h1 : G.2.2 + 117 ≤ q := h.1
  have h2 : q < G.2.2 + 117 := w.2
  omega
theorem s_A21 {G : s_G} : ∀ q, s_A G.2.2 q → ¬ s_A (gq G).2.2 q := fun q h w => s_A12 q w h
theorem s_Aq {G : s_G} : ∀ q, s_A (gq G).2.2 q → c_A G.2.2 q := fun q h => Nat.le_trans (Nat.le_add_right _ _) h.1
section TWO
variable {p : Program} {l : Launch} {e : Env} {R : Room} {s : State} {m : MethodId} {args : Array Value} {below : List Frame} {meth : Method} {c : Code} {H H0 : Heap} {locs : List Loc} {cells slots : Nat} {Q : State → Prop}
variable {cc bytes : ByteArray} {pc idx : Nat} {ls : Array Slot} {rest st0 : List Value} {G : s_G} {σ : Sg2} {own : String} {k : Nat}
theorem t_i1 {post : Int32 → Sg → Prop} {a : Array Value} (hr : va_Run p l e R s m args below meth c H locs cells slots 0 0 (F0 m pc ls st0) rest (va_Qi post (s_B G) (s_A G.2.2) a) (s_A G.2.2)) (S : t_St G σ H0 H locs)
    (kk : ∀ (r : Int32) (σ1 : Sg) (H1 : Heap) (locs1 : List Loc), post r σ1 → t_St G (σ1, σ.2) H0 H1 locs1 → W p l e R s m args below meth c H1 locs1 cells slots Q (F0 m (pc + 3) ls (.int r :: rest))) : W p l e R s m args below meth c H locs cells slots Q (F0 m pc ls st0) :=
  va_calli hr S.2.2 (fun _ _ h => h.1) (fun _ h => h.1) (fun r u t H1 locs1 ht _ hw hB _ hk hS => kk r u H1 locs1 hw ⟨⟨by rw [← ht]; exact hB.1, hB.2⟩, S.2.1.kept s_A12 hk, hS⟩)
theorem t_l1 {post : Int64 → Sg → Prop} {a : Array Value} (hr : va_Run p l e R s m args below meth c H locs cells slots 0 0 (F0 m pc ls st0) rest (va_Ql post (s_B G) (s_A G.2.2) a) (s_A G.2.2)) (S : t_St G σ H0 H locs)
    (kk : ∀ (r : Int64) (σ1 : Sg) (H1 : Heap) (locs1 : List Loc), post r σ1 → t_St G (σ1, σ.2) H0 H1 locs1 → W p l e R s m args below meth c H1 locs1 cells slots Q (F0 m (pc + 3) ls (.long r :: rest))) : W p l e R s m args below meth c H locs cells slots Q (F0 m pc ls st0) :=
  va_calll hr S.2.2 (fun _ _ h => h.1) (fun _ h => h.1) (fun r u t H1 locs1 ht _ hw hB _ hk hS => kk r u H1 locs1 hw ⟨⟨by rw [← ht]; exact hB.1, hB.2⟩, S.2.1.kept s_A12 hk, hS⟩)
theorem t_i2 {post : Int32 → Sg → Prop} {a : Array Value} (hr : va_Run p l e R s m args below meth c H locs cells slots 0 0 (F0 m pc ls st0) rest (va_Qi post (s_B (gq G)) (s_A (gq G).2.2) a) (s_A (gq G).2.2)) (S : t_St G σ H0 H locs)
    (kk : ∀ (r : Int32) (σ1 : Sg) (H1 : Heap) (locs1 : List Loc), post r σ1 → t_St G (σ.1, σ1) H0 H1 locs1 → W p l e R s m args below meth c H1 locs1 cells slots Q (F0 m (pc + 3) ls (.int r :: rest))) : W p l e R s m args below meth c H locs cells slots Q (F0 m pc ls st0) :=
  va_calli hr S.2.2 (fun q _ h => s_Aq q h) (fun q h => s_Aq q h) (fun r u t H1 locs1 ht _ hw hB _ hk hS => kk r u H1 locs1 hw ⟨S.1.kept s_A21 hk, ⟨by rw [← ht]; exact hB.1, hB.2⟩, hS⟩)
theorem t_l2 {post : Int64 → Sg → Prop} {a : Array Value} (hr : va_Run p l e R s m args below meth c H locs cells slots 0 0 (F0 m pc ls st0) rest (va_Ql post (s_B (gq G)) (s_A (gq G).2.2) a) (s_A (gq G).2.2)) (S : t_St G σ H0 H locs)
    (kk : ∀ (r : Int64) (σ1 : Sg) (H1 : Heap) (locs1 : List Loc), post r σ1 → t_St G (σ.1, σ1) H0 H1 locs1 → W p l e R s m args below meth c H1 locs1 cells slots Q (F0 m (pc + 3) ls (.long r :: rest))) : W p l e R s m args below meth c H locs cells slots Q (F0 m pc ls st0) :=
  va_calll hr S.2.2 (fun q _ h => s_Aq q h) (fun q h => s_Aq q h) (fun r u t H1 locs1 ht _ hw hB _ hk hS => kk r u H1 locs1 hw ⟨S.1.kept s_A21 hk, ⟨by rw [← ht]; exact hB.1, hB.2⟩, hS⟩)
theorem t_i3 {post : Int32 → Sg2 → Prop} {a : Array Value} (hr : va_Run p l e R s m args below meth c H locs cells slots 0 0 (F0 m pc ls st0) rest (va_Qi post (t_B G) (c_A G.2.2) a) (c_A G.2.2)) (S : t_St G σ H0 H locs)
    (kk : ∀ (r : Int32) (σ1 : Sg2) (H1 : Heap) (locs1 : List Loc), post r σ1 → t_St G σ1 H0 H1 locs1 → W p l e R s m args below meth c H1 locs1 cells slots Q (F0 m (pc + 3) ls (.int r :: rest))) : W p l e R s m args below meth c H locs cells slots Q (F0 m pc ls st0) :=
  va_calli hr S.2.2 (fun _ _ h => h) (fun _ h => h) (fun r u t H1 locs1 ht _ hw hB _ hk hS => kk r u H1 locs1 hw ⟨by rw [← ht]; exact hB.1, by rw [← ht]; exact hB.2, hS⟩)
theorem r_S2 {y : MethodName} {maxL nL np : Nat} {ret : Option FieldType} {rm : Room} {Qc : Array Value → State → Outcome → State → Prop} {As : List Value} (C : s_C G p s args m c own cc) (hml : c.maxLocals = nL) (hM : Met l y (wsU y bytes maxL ret) rm (va_Pc As (t_Pre G σ)) Qc 0 0 (c_A G.2.2)) (hy : s_M y bytes maxL ret np) (hst1 : Cond.static y ∈ wL) (hlink : Cond.methodLink own idx y ∈ wL) (hrm : rm.cells = 0 ∧ rm.slots = 0) (hR : rm.frames + 1 ≤ R.frames ∧ 8 + (maxL + 11) + rm.locals ≤ R.locals) (hf : cells ≤ R.cells ∧ slots ≤ R.slots)
    (S : t_St G σ H0 H locs) (hn : As.length = np) (hsize : ls.size = nL) (hst : st0 = As.reverse ++ rest) (hW : (rest.map fun v => v.category).sum ≤ 8) (hdg : decode cc pc = .ok (.invokestatic idx, 3)) : va_Run p l e R s m args below meth c H locs cells slots 0 0 (F0 m pc ls st0) rest (Qc As.toArray) (c_A G.2.2) :=
  va_runS (As := As) (rest := rest) ⟨C.1, C.2.1, hml, C.2.2.1, C.2.2.2.1⟩ hM ⟨callB_of np C.2.2.2.1 (good_U hy) rfl hrm.1 hrm.2 (C.2.2.2.1 _ hy.2.1) (C.2.2.2.1 _ hlink) hy.2.2 hR, C.2.2.2.1 _ hst1⟩ ⟨t_Pre.blind G σ _, fun U hU hW => ⟨rfl, by rw [hU]; exact S.1, by rw [hU]; exact S.2.1, va_K.moved hW.alike C.2.2.2.2.1, C.2.2.2.2.2.moved hW⟩⟩ rfl hn hsize hst (lv_room hW) hdg hf
/-- the script's reader: no cell of the world is touched -/
def x_Pre (b L : Nat) (xs : Nat → Int32) (U : State) : Prop := va_X b L xs U U.heap
theorem x_Pre.blind (b L : Nat) (xs : Nat → Int32) (av : List Value) : FrameBlind (va_Pc av (x_Pre b L xs)) := fun a U g mk q => ⟨q.1, va_X.moved (u := U) (U := U.calling g mk a) (Vm.Alike.refl U.vm) q.2⟩
def cellV (L : Nat) (xs : Nat → Int32) (k : Int32) : Int32 := if k < nI L then xs k.toNatClampNeg else 747796405 * (k + 1)
theorem t_cell {y : MethodName} {maxL nL np : Nat} {ret : Option FieldType} {rm : Room} {b L : Nat} {xs : Nat → Int32} {v r : Int32} {As : List Value} (C : s_C G p s args m c own cc) (hml : c.maxLocals = nL) (hM : Met l y (wsU y bytes maxL ret) rm (va_Pc As (x_Pre b L xs)) (va_Qi (fun q (_ : Unit) => q = r) (fun _ _ => True) (fun _ => False)) 0 0 (fun _ => False)) (hy : s_M y bytes maxL ret np) (hst1 : Cond.static y ∈ wL) (hlink : Cond.methodLink own idx y ∈ wL) (hrm : rm.cells = 0 ∧ rm.slots = 0) (hR : rm.frames + 1 ≤ R.frames ∧ 8 + (maxL + 11) + rm.locals ≤ R.locals) (hf : cells ≤ R.cells ∧ slots ≤ R.slots)
    (S : t_St G σ H0 H locs) (hX : va_X b L xs s H0) (hbl : b < H0.size) (hbA : ¬ c_A G.2.2 b) (hn : As.length = np) (hsize : ls.size = nL) (hst : st0 = As.reverse ++ rest) (hW : (rest.map fun v => v.category).sum ≤ 8) (hdg : decode cc pc = .ok (.invokestatic idx, 3))
    (kk : ∀ (H1 : Heap) (locs1 : List Loc), t_St G σ H0 H1 locs1 → W p l e R s m args below meth c H1 locs1 cells slots Q (F0 m (pc + 3) ls (.int r :: rest))) : W p l e R s m args below meth c H locs cells slots Q (F0 m pc ls st0) := by
  have hX1 : va_X b L xs s H := hX.kept (S.2.2.2.1 b hbl hbA)
  have hr : va_Run p l e R s m args below meth c H locs cells slots 0 0 (F0 m pc ls st0) rest (va_Qi (fun q (_ : Unit) => q = r) (fun _ _ => True) (fun _ => False) As.toArray) (fun _ => False) := va_runS (As := As) (rest := rest) ⟨C.1, C.2.1, hml, C.2.2.1, C.2.2.2.1⟩ hM ⟨callB_of np C.2.2.2.1 (good_U hy) rfl hrm.1 hrm.2 (C.2.2.2.1 _ hy.2.1) (C.2.2.2.1 _ hlink) hy.2.2 hR, C.2.2.2.1 _ hst1⟩ ⟨x_Pre.blind b L xs _, fun U hU hW => ⟨rfl, by show va_X b L xs U U.heap; rw [hU]; exact hX1.moved hW.alike⟩⟩ rfl hn hsize hst (lv_room hW) hdg hf
  refine va_calli hr S.2.2 (fun _ _ h => h.elim) (fun _ h => h.elim) (fun q u t H1 locs1 ht _ hw hB _ hk hS => ?_)
  have hw : q = r := hw
  subst hw
  exact kk H1 locs1 ⟨S.1.kept (A := fun _ => False) (fun _ _ h => h) hk, S.2.1.kept (A := fun _ => False) (fun _ _ h => h) hk, hS⟩
end TWO
