/-! ===== the tables' words that are good for any callee, each by its place ===== -/
def bG : List Cond := lw_tbl.filter goodWord
theorem bm {w : Cond} (h : w ∈ lw_tbl) (g : goodWord w = true) : w ∈ bG := List.mem_filter.mpr ⟨h, g⟩
theorem t_in1 {w : Cond} (h : w ∈ tables_1_1) : w ∈ lw_tbl := List.mem_append_right _ (List.mem_append_left _ h)
theorem t_in2 {w : Cond} (h : w ∈ tables_1_2) : w ∈ lw_tbl := List.mem_append_right _ (List.mem_append_right _ (List.mem_append_left _ h))
theorem t_in3 {w : Cond} (h : w ∈ tables_1_3) : w ∈ lw_tbl := List.mem_append_right _ (List.mem_append_right _ (List.mem_append_right _ (List.mem_append_left _ h)))
theorem t_in4 {w : Cond} (h : w ∈ tables_1_4) : w ∈ lw_tbl := List.mem_append_right _ (List.mem_append_right _ (List.mem_append_right _ (List.mem_append_right _ (List.mem_append_left _ h))))
theorem t_in5 {w : Cond} (h : w ∈ tables_1_5) : w ∈ lw_tbl := List.mem_append_right _ (List.mem_append_right _ (List.mem_append_right _ (List.mem_append_right _ (List.mem_append_right _ (h)))))
theorem wd0 : Cond.initialized RL ∈ bG := bm (t_in1 (List.mem_of_getElem? (i := 0) rfl)) rfl
theorem wd1 : Cond.initialized RX11 ∈ bG := bm (t_in1 (List.mem_of_getElem? (i := 1) rfl)) rfl
theorem wd2 : Cond.initialized RX9 ∈ bG := bm (t_in1 (List.mem_of_getElem? (i := 2) rfl)) rfl
theorem wd3 : Cond.initialized RX5 ∈ bG := bm (t_in1 (List.mem_of_getElem? (i := 3) rfl)) rfl
theorem wd4 : Cond.initialized RX10 ∈ bG := bm (t_in1 (List.mem_of_getElem? (i := 4) rfl)) rfl
theorem wd5 : Cond.initialized RX3 ∈ bG := bm (t_in1 (List.mem_of_getElem? (i := 5) rfl)) rfl
theorem wd6 : Cond.initialized RX8 ∈ bG := bm (t_in1 (List.mem_of_getElem? (i := 6) rfl)) rfl
theorem wd7 : Cond.initialized RX6 ∈ bG := bm (t_in1 (List.mem_of_getElem? (i := 7) rfl)) rfl
theorem wd8 : Cond.initialized RX2 ∈ bG := bm (t_in1 (List.mem_of_getElem? (i := 8) rfl)) rfl
theorem wd9 : Cond.initialized RX4 ∈ bG := bm (t_in1 (List.mem_of_getElem? (i := 9) rfl)) rfl
theorem wd10 : Cond.initialized RX7 ∈ bG := bm (t_in1 (List.mem_of_getElem? (i := 10) rfl)) rfl
theorem wd11 : Cond.initialized "java/lang/Enum" ∈ bG := bm (t_in1 (List.mem_of_getElem? (i := 11) rfl)) rfl
theorem wd12 : Cond.initialized RX1 ∈ bG := bm (t_in1 (List.mem_of_getElem? (i := 12) rfl)) rfl
theorem wd13 : Cond.initialized "java/lang/String" ∈ bG := bm (t_in1 (List.mem_of_getElem? (i := 13) rfl)) rfl
theorem wd14 : Cond.initialized "java/lang/StringLatin1" ∈ bG := bm (t_in1 (List.mem_of_getElem? (i := 14) rfl)) rfl
theorem wd15 : Cond.initialized "jdk/internal/util/Preconditions" ∈ bG := bm (t_in1 (List.mem_of_getElem? (i := 15) rfl)) rfl
theorem wd16 : Cond.initialized "java/lang/StringUTF16" ∈ bG := bm (t_in1 (List.mem_of_getElem? (i := 16) rfl)) rfl
theorem wd17 : Cond.initialized RX0 ∈ bG := bm (t_in1 (List.mem_of_getElem? (i := 17) rfl)) rfl
theorem wd18 : Cond.initialized "java/lang/Throwable" ∈ bG := bm (t_in1 (List.mem_of_getElem? (i := 18) rfl)) rfl
theorem wd19 : Cond.initialized "java/lang/Exception" ∈ bG := bm (t_in1 (List.mem_of_getElem? (i := 19) rfl)) rfl
theorem wd20 : Cond.initialized "java/lang/RuntimeException" ∈ bG := bm (t_in1 (List.mem_of_getElem? (i := 20) rfl)) rfl
theorem wd21 : Cond.initialized "java/lang/IndexOutOfBoundsException" ∈ bG := bm (t_in1 (List.mem_of_getElem? (i := 21) rfl)) rfl
theorem wd22 : Cond.initialized "java/lang/IllegalStateException" ∈ bG := bm (t_in1 (List.mem_of_getElem? (i := 22) rfl)) rfl
theorem wd23 : Cond.initialized "java/lang/IllegalArgumentException" ∈ bG := bm (t_in1 (List.mem_of_getElem? (i := 23) rfl)) rfl
theorem wd24 : Cond.initialized "java/lang/Math" ∈ bG := bm (t_in1 (List.mem_of_getElem? (i := 24) rfl)) rfl
theorem wd25 : Cond.initialized "java/lang/Integer" ∈ bG := bm (t_in1 (List.mem_of_getElem? (i := 25) rfl)) rfl
theorem wd26 : Cond.classLink RL 31 RX11 ∈ bG := bm (t_in1 (List.mem_of_getElem? (i := 26) rfl)) rfl
theorem wd27 : Cond.instantiable RX11 9 ∈ bG := bm (t_in1 (List.mem_of_getElem? (i := 27) rfl)) rfl
theorem wd28 : Cond.methodLink RL 62 yX11_init ∈ bG := bm (t_in1 (List.mem_of_getElem? (i := 28) rfl)) rfl
theorem wd29 : Cond.instanceMethod yX11_init ∈ bG := bm (t_in1 (List.mem_of_getElem? (i := 29) rfl)) rfl
theorem wd30 : Cond.code yX11_init prog_1_method_1_code 1 none ∈ bG := bm (t_in1 (List.mem_of_getElem? (i := 30) rfl)) rfl
theorem wd31 : Cond.methodLink RX11 1 ⟨"java/lang/Object", "<init>", "()V"⟩ ∈ bG := bm (t_in1 (List.mem_of_getElem? (i := 31) rfl)) rfl
theorem wd32 : Cond.instanceMethod ⟨"java/lang/Object", "<init>", "()V"⟩ ∈ bG := bm (t_in1 (List.mem_of_getElem? (i := 32) rfl)) rfl
theorem wd33 : Cond.code ⟨"java/lang/Object", "<init>", "()V"⟩ object_method_1_code 1 none ∈ bG := bm (t_in1 (List.mem_of_getElem? (i := 33) rfl)) rfl
theorem wd34 : Cond.classLink RX11 7 RX9 ∈ bG := bm (t_in1 (List.mem_of_getElem? (i := 34) rfl)) rfl
theorem wd35 : Cond.instantiable RX9 2 ∈ bG := bm (t_in1 (List.mem_of_getElem? (i := 35) rfl)) rfl
theorem wd36 : Cond.methodLinkNest RX11 9 yX9_init RX11 ∈ lw_tbl := t_in1 (List.mem_of_getElem? (i := 36) rfl)
theorem wd37 : Cond.instanceMethod yX9_init ∈ bG := bm (t_in1 (List.mem_of_getElem? (i := 37) rfl)) rfl
theorem wd38 : Cond.code yX9_init prog_11_method_1_code 1 none ∈ bG := bm (t_in1 (List.mem_of_getElem? (i := 38) rfl)) rfl
theorem wd39 : Cond.methodLink RX9 3 ⟨"java/lang/Object", "<init>", "()V"⟩ ∈ bG := bm (t_in1 (List.mem_of_getElem? (i := 39) rfl)) rfl
theorem wd40 : Cond.fieldLink RX11 64 "RiddleMill$Tape" "length" "I" ∈ bG := bm (t_in1 (List.mem_of_getElem? (i := 40) rfl)) rfl
theorem wd41 : Cond.fieldLink RX9 15 "RiddleMill$Tape" "length" "I" ∈ bG := bm (t_in1 (List.mem_of_getElem? (i := 41) rfl)) rfl
theorem wd42 : Cond.fieldLink RX10 29 "RiddleMill$Tape" "length" "I" ∈ bG := bm (t_in1 (List.mem_of_getElem? (i := 42) rfl)) rfl
theorem wd43 : Cond.fieldLink RX9 9 "RiddleMill$Tape" "bytes" "[I" ∈ bG := bm (t_in1 (List.mem_of_getElem? (i := 43) rfl)) rfl
theorem wd44 : Cond.arrayClass .int ∈ bG := bm (t_in1 (List.mem_of_getElem? (i := 49) rfl)) rfl
theorem wd45 : Cond.classLink RX11 16 RX5 ∈ bG := bm (t_in1 (List.mem_of_getElem? (i := 50) rfl)) rfl
theorem wd46 : Cond.instantiable RX5 4 ∈ bG := bm (t_in1 (List.mem_of_getElem? (i := 51) rfl)) rfl
theorem wd47 : Cond.methodLinkNest RX11 18 yX5_init RX11 ∈ lw_tbl := t_in1 (List.mem_of_getElem? (i := 52) rfl)
theorem wd48 : Cond.instanceMethod yX5_init ∈ bG := bm (t_in1 (List.mem_of_getElem? (i := 53) rfl)) rfl
theorem wd49 : Cond.code yX5_init prog_7_method_1_code 1 none ∈ bG := bm (t_in1 (List.mem_of_getElem? (i := 54) rfl)) rfl
theorem wd50 : Cond.methodLink RX5 3 ⟨"java/lang/Object", "<init>", "()V"⟩ ∈ bG := bm (t_in1 (List.mem_of_getElem? (i := 55) rfl)) rfl
theorem wd51 : Cond.classLink RX5 15 RX10 ∈ bG := bm (t_in1 (List.mem_of_getElem? (i := 56) rfl)) rfl
theorem wd52 : Cond.instantiable RX10 4 ∈ bG := bm (t_in1 (List.mem_of_getElem? (i := 57) rfl)) rfl
theorem wd53 : Cond.methodLinkNest RX5 17 yX10_init RX11 ∈ lw_tbl := t_in1 (List.mem_of_getElem? (i := 58) rfl)
theorem wd54 : Cond.instanceMethod yX10_init ∈ bG := bm (t_in1 (List.mem_of_getElem? (i := 59) rfl)) rfl
theorem wd55 : Cond.code yX10_init prog_12_method_1_code 1 none ∈ bG := bm (t_in1 (List.mem_of_getElem? (i := 60) rfl)) rfl
theorem wd56 : Cond.methodLink RX10 3 ⟨"java/lang/Object", "<init>", "()V"⟩ ∈ bG := bm (t_in1 (List.mem_of_getElem? (i := 61) rfl)) rfl
theorem wd57 : Cond.fieldLink RX10 21 "RiddleMill$Tokens" "count" "I" ∈ bG := bm (t_in1 (List.mem_of_getElem? (i := 62) rfl)) rfl
theorem wd58 : Cond.fieldLink RX5 58 "RiddleMill$Tokens" "count" "I" ∈ bG := bm (t_in1 (List.mem_of_getElem? (i := 63) rfl)) rfl
theorem wd59 : Cond.fieldLink RX10 9 "RiddleMill$Tokens" "types" "[I" ∈ bG := bm (t_in1 (List.mem_of_getElem? (i := 64) rfl)) rfl
theorem wd60 : Cond.fieldLink RX10 15 "RiddleMill$Tokens" "starts" "[I" ∈ bG := bm (t_in1 (List.mem_of_getElem? (i := 65) rfl)) rfl
theorem wd61 : Cond.fieldLink RX10 18 "RiddleMill$Tokens" "numbers" "[I" ∈ bG := bm (t_in1 (List.mem_of_getElem? (i := 66) rfl)) rfl
theorem wd62 : Cond.fieldLink RX5 22 "RiddleMill$PuzzleReader" "error" "I" ∈ bG := bm (t_in1 (List.mem_of_getElem? (i := 76) rfl)) rfl
theorem wd63 : Cond.fieldLink RX11 91 "RiddleMill$PuzzleReader" "error" "I" ∈ bG := bm (t_in1 (List.mem_of_getElem? (i := 77) rfl)) rfl
theorem wd64 : Cond.fieldLink RX5 9 "RiddleMill$PuzzleReader" "errorAt" "I" ∈ bG := bm (t_in1 (List.mem_of_getElem? (i := 78) rfl)) rfl
theorem wd65 : Cond.fieldLink RX5 18 "RiddleMill$PuzzleReader" "tokens" "LRiddleMill$Tokens;" ∈ bG := bm (t_in1 (List.mem_of_getElem? (i := 79) rfl)) rfl
theorem wd66 : Cond.fieldLink RX5 44 "RiddleMill$PuzzleReader" "place" "I" ∈ bG := bm (t_in1 (List.mem_of_getElem? (i := 80) rfl)) rfl
theorem wd67 : Cond.classLink RX11 23 RX3 ∈ bG := bm (t_in1 (List.mem_of_getElem? (i := 90) rfl)) rfl
theorem wd68 : Cond.instantiable RX3 2 ∈ bG := bm (t_in1 (List.mem_of_getElem? (i := 91) rfl)) rfl
theorem wd69 : Cond.methodLinkNest RX11 25 yX3_init RX11 ∈ lw_tbl := t_in1 (List.mem_of_getElem? (i := 92) rfl)
theorem wd70 : Cond.instanceMethod yX3_init ∈ bG := bm (t_in1 (List.mem_of_getElem? (i := 93) rfl)) rfl
theorem wd71 : Cond.code yX3_init prog_5_method_1_code 1 none ∈ bG := bm (t_in1 (List.mem_of_getElem? (i := 94) rfl)) rfl
theorem wd72 : Cond.methodLink RX3 3 ⟨"java/lang/Object", "<init>", "()V"⟩ ∈ bG := bm (t_in1 (List.mem_of_getElem? (i := 95) rfl)) rfl
theorem wd73 : Cond.fieldLink RX3 9 "RiddleMill$Paper" "bytes" "[I" ∈ bG := bm (t_in1 (List.mem_of_getElem? (i := 96) rfl)) rfl
theorem wd74 : Cond.fieldLink RX11 182 "RiddleMill$Paper" "bytes" "[I" ∈ bG := bm (t_in1 (List.mem_of_getElem? (i := 97) rfl)) rfl
theorem wd75 : Cond.fieldLink RX3 15 "RiddleMill$Paper" "length" "I" ∈ bG := bm (t_in1 (List.mem_of_getElem? (i := 98) rfl)) rfl
theorem wd76 : Cond.fieldLink RX11 125 "RiddleMill$Paper" "length" "I" ∈ bG := bm (t_in1 (List.mem_of_getElem? (i := 99) rfl)) rfl
theorem wd77 : Cond.classLink RX11 30 RX8 ∈ bG := bm (t_in1 (List.mem_of_getElem? (i := 105) rfl)) rfl
theorem wd78 : Cond.instantiable RX8 9 ∈ bG := bm (t_in1 (List.mem_of_getElem? (i := 106) rfl)) rfl
theorem wd79 : Cond.methodLinkNest RX11 32 yX8_init RX11 ∈ lw_tbl := t_in1 (List.mem_of_getElem? (i := 107) rfl)
theorem wd80 : Cond.instanceMethod yX8_init ∈ bG := bm (t_in1 (List.mem_of_getElem? (i := 108) rfl)) rfl
theorem wd81 : Cond.code yX8_init prog_10_method_1_code 1 none ∈ bG := bm (t_in1 (List.mem_of_getElem? (i := 109) rfl)) rfl
theorem wd82 : Cond.methodLink RX8 3 ⟨"java/lang/Object", "<init>", "()V"⟩ ∈ bG := bm (t_in1 (List.mem_of_getElem? (i := 110) rfl)) rfl
theorem wd83 : Cond.classLink RX8 9 "[[I" ∈ bG := bm (t_in1 (List.mem_of_getElem? (i := 111) rfl)) rfl
theorem wd84 : Cond.arrayOver (.array .int) ∈ lw_tbl := t_in1 (List.mem_of_getElem? (i := 112) rfl)
theorem wd85 : Cond.fieldLink RX8 11 "RiddleMill$Search" "solutions" "[[I" ∈ bG := bm (t_in1 (List.mem_of_getElem? (i := 113) rfl)) rfl
theorem wd86 : Cond.fieldLink RX2 41 "RiddleMill$Search" "solutions" "[[I" ∈ bG := bm (t_in1 (List.mem_of_getElem? (i := 114) rfl)) rfl
theorem wd87 : Cond.fieldLink RX11 201 "RiddleMill$Search" "solutions" "[[I" ∈ bG := bm (t_in1 (List.mem_of_getElem? (i := 115) rfl)) rfl
theorem wd88 : Cond.fieldLink RX8 47 "RiddleMill$Search" "found" "I" ∈ bG := bm (t_in1 (List.mem_of_getElem? (i := 116) rfl)) rfl
theorem wd89 : Cond.fieldLink RX11 119 "RiddleMill$Search" "found" "I" ∈ bG := bm (t_in1 (List.mem_of_getElem? (i := 117) rfl)) rfl
theorem wd90 : Cond.fieldLink RX8 57 "RiddleMill$Search" "tries" "I" ∈ bG := bm (t_in1 (List.mem_of_getElem? (i := 118) rfl)) rfl
theorem wd91 : Cond.fieldLink RX11 122 "RiddleMill$Search" "tries" "I" ∈ bG := bm (t_in1 (List.mem_of_getElem? (i := 119) rfl)) rfl
theorem wd92 : Cond.fieldLink RX8 16 "RiddleMill$Search" "values" "[I" ∈ bG := bm (t_in1 (List.mem_of_getElem? (i := 120) rfl)) rfl
theorem wd93 : Cond.fieldLink RX8 20 "RiddleMill$Search" "only" "[I" ∈ bG := bm (t_in1 (List.mem_of_getElem? (i := 121) rfl)) rfl
theorem wd94 : Cond.fieldLink RX8 23 "RiddleMill$Search" "first" "[I" ∈ bG := bm (t_in1 (List.mem_of_getElem? (i := 122) rfl)) rfl
theorem wd95 : Cond.fieldLink RX8 54 "RiddleMill$Search" "without" "I" ∈ bG := bm (t_in1 (List.mem_of_getElem? (i := 123) rfl)) rfl
theorem wd96 : Cond.fieldLink RX8 51 "RiddleMill$Search" "most" "I" ∈ bG := bm (t_in1 (List.mem_of_getElem? (i := 124) rfl)) rfl
theorem wd97 : Cond.fieldLink RX8 43 "RiddleMill$Search" "hasGivenUp" "Z" ∈ bG := bm (t_in1 (List.mem_of_getElem? (i := 125) rfl)) rfl
theorem wd98 : Cond.classLink RX11 40 RX6 ∈ bG := bm (t_in1 (List.mem_of_getElem? (i := 145) rfl)) rfl
theorem wd99 : Cond.instantiable RX6 8 ∈ bG := bm (t_in1 (List.mem_of_getElem? (i := 146) rfl)) rfl
theorem wd100 : Cond.methodLinkNest RX11 42 yX6_init RX11 ∈ lw_tbl := t_in1 (List.mem_of_getElem? (i := 147) rfl)
theorem wd101 : Cond.instanceMethod yX6_init ∈ bG := bm (t_in1 (List.mem_of_getElem? (i := 148) rfl)) rfl
theorem wd102 : Cond.code yX6_init prog_8_method_1_code 1 none ∈ bG := bm (t_in1 (List.mem_of_getElem? (i := 149) rfl)) rfl
theorem wd103 : Cond.methodLink RX6 3 ⟨"java/lang/Object", "<init>", "()V"⟩ ∈ bG := bm (t_in1 (List.mem_of_getElem? (i := 150) rfl)) rfl
theorem wd104 : Cond.fieldLink RX6 9 "RiddleMill$Reasoner" "sets" "[I" ∈ bG := bm (t_in1 (List.mem_of_getElem? (i := 151) rfl)) rfl
theorem wd105 : Cond.fieldLink RX11 216 "RiddleMill$Reasoner" "sets" "[I" ∈ bG := bm (t_in1 (List.mem_of_getElem? (i := 152) rfl)) rfl
theorem wd106 : Cond.fieldLink RX6 18 "RiddleMill$Reasoner" "passes" "I" ∈ bG := bm (t_in1 (List.mem_of_getElem? (i := 153) rfl)) rfl
theorem wd107 : Cond.fieldLink RX11 244 "RiddleMill$Reasoner" "passes" "I" ∈ bG := bm (t_in1 (List.mem_of_getElem? (i := 154) rfl)) rfl
theorem wd108 : Cond.fieldLink RX6 22 "RiddleMill$Reasoner" "greatestGrade" "I" ∈ bG := bm (t_in1 (List.mem_of_getElem? (i := 155) rfl)) rfl
theorem wd109 : Cond.fieldLink RX11 247 "RiddleMill$Reasoner" "greatestGrade" "I" ∈ bG := bm (t_in1 (List.mem_of_getElem? (i := 156) rfl)) rfl
theorem wd110 : Cond.fieldLink RX6 58 "RiddleMill$Reasoner" "firstRule" "I" ∈ bG := bm (t_in1 (List.mem_of_getElem? (i := 157) rfl)) rfl
theorem wd111 : Cond.fieldLink RX11 225 "RiddleMill$Reasoner" "firstRule" "I" ∈ bG := bm (t_in1 (List.mem_of_getElem? (i := 158) rfl)) rfl
theorem wd112 : Cond.fieldLink RX6 73 "RiddleMill$Reasoner" "firstCell" "I" ∈ bG := bm (t_in1 (List.mem_of_getElem? (i := 159) rfl)) rfl
theorem wd113 : Cond.fieldLink RX11 228 "RiddleMill$Reasoner" "firstCell" "I" ∈ bG := bm (t_in1 (List.mem_of_getElem? (i := 160) rfl)) rfl
theorem wd114 : Cond.fieldLink RX6 76 "RiddleMill$Reasoner" "firstValue" "I" ∈ bG := bm (t_in1 (List.mem_of_getElem? (i := 161) rfl)) rfl
theorem wd115 : Cond.fieldLink RX11 231 "RiddleMill$Reasoner" "firstValue" "I" ∈ bG := bm (t_in1 (List.mem_of_getElem? (i := 162) rfl)) rfl
theorem wd116 : Cond.fieldLink RX6 83 "RiddleMill$Reasoner" "firstGrade" "I" ∈ bG := bm (t_in1 (List.mem_of_getElem? (i := 163) rfl)) rfl
theorem wd117 : Cond.fieldLink RX11 234 "RiddleMill$Reasoner" "firstGrade" "I" ∈ bG := bm (t_in1 (List.mem_of_getElem? (i := 164) rfl)) rfl
theorem wd118 : Cond.fieldLink RX6 15 "RiddleMill$Reasoner" "values" "[I" ∈ bG := bm (t_in1 (List.mem_of_getElem? (i := 165) rfl)) rfl
theorem wd119 : Cond.classLink RX11 47 RX2 ∈ bG := bm (t_in1 (List.mem_of_getElem? (i := 183) rfl)) rfl
theorem wd120 : Cond.instantiable RX2 2 ∈ bG := bm (t_in1 (List.mem_of_getElem? (i := 184) rfl)) rfl
theorem wd121 : Cond.methodLinkNest RX11 49 yX2_init RX11 ∈ lw_tbl := t_in1 (List.mem_of_getElem? (i := 185) rfl)
theorem wd122 : Cond.instanceMethod yX2_init ∈ bG := bm (t_in1 (List.mem_of_getElem? (i := 186) rfl)) rfl
theorem wd123 : Cond.code yX2_init prog_4_method_1_code 1 none ∈ bG := bm (t_in1 (List.mem_of_getElem? (i := 187) rfl)) rfl
theorem wd124 : Cond.methodLink RX2 3 ⟨"java/lang/Object", "<init>", "()V"⟩ ∈ bG := bm (t_in1 (List.mem_of_getElem? (i := 188) rfl)) rfl
theorem wd125 : Cond.fieldLink RX2 9 "RiddleMill$Maker" "firstValues" "[I" ∈ bG := bm (t_in1 (List.mem_of_getElem? (i := 189) rfl)) rfl
theorem wd126 : Cond.fieldLink RX2 15 "RiddleMill$Maker" "seed" "I" ∈ bG := bm (t_in1 (List.mem_of_getElem? (i := 190) rfl)) rfl
theorem wd127 : Cond.classLink RX11 54 RX4 ∈ bG := bm (t_in1 (List.mem_of_getElem? (i := 196) rfl)) rfl
theorem wd128 : Cond.instantiable RX4 7 ∈ bG := bm (t_in1 (List.mem_of_getElem? (i := 197) rfl)) rfl
theorem wd129 : Cond.methodLink RX11 56 yX4_init ∈ bG := bm (t_in1 (List.mem_of_getElem? (i := 198) rfl)) rfl
theorem wd130 : Cond.instanceMethod yX4_init ∈ bG := bm (t_in1 (List.mem_of_getElem? (i := 199) rfl)) rfl
theorem wd131 : Cond.code yX4_init prog_6_method_1_code 2 none ∈ bG := bm (t_in1 (List.mem_of_getElem? (i := 200) rfl)) rfl
theorem wd132 : Cond.methodLink RX4 3 ⟨"java/lang/Object", "<init>", "()V"⟩ ∈ bG := bm (t_in1 (List.mem_of_getElem? (i := 201) rfl)) rfl
theorem wd133 : Cond.classLink RX4 15 RX7 ∈ bG := bm (t_in1 (List.mem_of_getElem? (i := 202) rfl)) rfl
theorem wd134 : Cond.arrayOver (.object "RiddleMill$Rule") ∈ lw_tbl := t_in1 (List.mem_of_getElem? (i := 203) rfl)
theorem wd135 : Cond.instantiable RX7 6 ∈ bG := bm (t_in1 (List.mem_of_getElem? (i := 204) rfl)) rfl
theorem wd136 : Cond.methodLinkNest RX4 24 yX7_init RX11 ∈ lw_tbl := t_in1 (List.mem_of_getElem? (i := 205) rfl)
theorem wd137 : Cond.instanceMethod yX7_init ∈ bG := bm (t_in1 (List.mem_of_getElem? (i := 206) rfl)) rfl
theorem wd138 : Cond.code yX7_init prog_9_method_1_code 1 none ∈ bG := bm (t_in1 (List.mem_of_getElem? (i := 207) rfl)) rfl
theorem wd139 : Cond.methodLink RX7 3 ⟨"java/lang/Object", "<init>", "()V"⟩ ∈ bG := bm (t_in1 (List.mem_of_getElem? (i := 208) rfl)) rfl
theorem wd140 : Cond.fieldLink RX7 9 "RiddleMill$Kind" "DIFFER" "LRiddleMill$Kind;" ∈ bG := bm (t_in1 (List.mem_of_getElem? (i := 209) rfl)) rfl
theorem wd141 : Cond.laysStatic "RiddleMill$Kind" "DIFFER" "LRiddleMill$Kind;" ∈ lw_tbl := t_in1 (List.mem_of_getElem? (i := 210) rfl)
theorem wd142 : Cond.fieldLink RX7 15 "RiddleMill$Rule" "kind" "LRiddleMill$Kind;" ∈ bG := bm (t_in1 (List.mem_of_getElem? (i := 211) rfl)) rfl
theorem wd143 : Cond.fieldLink RX3 54 "RiddleMill$Rule" "kind" "LRiddleMill$Kind;" ∈ bG := bm (t_in1 (List.mem_of_getElem? (i := 212) rfl)) rfl
theorem wd144 : Cond.fieldLink RX11 138 "RiddleMill$Rule" "kind" "LRiddleMill$Kind;" ∈ bG := bm (t_in1 (List.mem_of_getElem? (i := 213) rfl)) rfl
theorem wd145 : Cond.fieldLink RX5 112 "RiddleMill$Rule" "kind" "LRiddleMill$Kind;" ∈ bG := bm (t_in1 (List.mem_of_getElem? (i := 214) rfl)) rfl
theorem wd146 : Cond.fieldLink RX4 69 "RiddleMill$Rule" "kind" "LRiddleMill$Kind;" ∈ bG := bm (t_in1 (List.mem_of_getElem? (i := 215) rfl)) rfl
theorem wd147 : Cond.fieldLink RX7 24 "RiddleMill$Rule" "number" "I" ∈ bG := bm (t_in1 (List.mem_of_getElem? (i := 216) rfl)) rfl
theorem wd148 : Cond.fieldLink RX3 69 "RiddleMill$Rule" "number" "I" ∈ bG := bm (t_in1 (List.mem_of_getElem? (i := 217) rfl)) rfl
theorem wd149 : Cond.fieldLink RX11 149 "RiddleMill$Rule" "number" "I" ∈ bG := bm (t_in1 (List.mem_of_getElem? (i := 218) rfl)) rfl
theorem wd150 : Cond.fieldLink RX4 62 "RiddleMill$Rule" "number" "I" ∈ bG := bm (t_in1 (List.mem_of_getElem? (i := 219) rfl)) rfl
theorem wd151 : Cond.fieldLink RX5 134 "RiddleMill$Rule" "number" "I" ∈ bG := bm (t_in1 (List.mem_of_getElem? (i := 220) rfl)) rfl
theorem wd152 : Cond.fieldLink RX7 28 "RiddleMill$Rule" "times" "I" ∈ bG := bm (t_in1 (List.mem_of_getElem? (i := 221) rfl)) rfl
theorem wd153 : Cond.fieldLink RX3 72 "RiddleMill$Rule" "times" "I" ∈ bG := bm (t_in1 (List.mem_of_getElem? (i := 222) rfl)) rfl
theorem wd154 : Cond.fieldLink RX11 150 "RiddleMill$Rule" "times" "I" ∈ bG := bm (t_in1 (List.mem_of_getElem? (i := 223) rfl)) rfl
theorem wd155 : Cond.fieldLink RX5 154 "RiddleMill$Rule" "times" "I" ∈ bG := bm (t_in1 (List.mem_of_getElem? (i := 224) rfl)) rfl
theorem wd156 : Cond.fieldLink RX7 31 "RiddleMill$Rule" "size" "I" ∈ bG := bm (t_in1 (List.mem_of_getElem? (i := 225) rfl)) rfl
theorem wd157 : Cond.fieldLink RX3 75 "RiddleMill$Rule" "size" "I" ∈ bG := bm (t_in1 (List.mem_of_getElem? (i := 226) rfl)) rfl
theorem wd158 : Cond.fieldLink RX6 61 "RiddleMill$Rule" "size" "I" ∈ bG := bm (t_in1 (List.mem_of_getElem? (i := 227) rfl)) rfl
theorem wd159 : Cond.fieldLink RX11 153 "RiddleMill$Rule" "size" "I" ∈ bG := bm (t_in1 (List.mem_of_getElem? (i := 228) rfl)) rfl
theorem wd160 : Cond.fieldLink RX5 160 "RiddleMill$Rule" "size" "I" ∈ bG := bm (t_in1 (List.mem_of_getElem? (i := 229) rfl)) rfl
theorem wd161 : Cond.fieldLink RX7 20 "RiddleMill$Rule" "cells" "[I" ∈ bG := bm (t_in1 (List.mem_of_getElem? (i := 230) rfl)) rfl
theorem wd162 : Cond.fieldLink RX3 78 "RiddleMill$Rule" "cells" "[I" ∈ bG := bm (t_in1 (List.mem_of_getElem? (i := 231) rfl)) rfl
theorem wd163 : Cond.fieldLink RX6 70 "RiddleMill$Rule" "cells" "[I" ∈ bG := bm (t_in1 (List.mem_of_getElem? (i := 232) rfl)) rfl
theorem wd164 : Cond.fieldLink RX7 34 "RiddleMill$Rule" "mask" "I" ∈ bG := bm (t_in1 (List.mem_of_getElem? (i := 233) rfl)) rfl
theorem wd165 : Cond.fieldLink RX4 25 "RiddleMill$Puzzle" "columns" "I" ∈ bG := bm (t_in2 (List.mem_of_getElem? (i := 7) rfl)) rfl
theorem wd166 : Cond.fieldLink RX3 25 "RiddleMill$Puzzle" "columns" "I" ∈ bG := bm (t_in2 (List.mem_of_getElem? (i := 8) rfl)) rfl
theorem wd167 : Cond.fieldLink RX11 97 "RiddleMill$Puzzle" "columns" "I" ∈ bG := bm (t_in2 (List.mem_of_getElem? (i := 9) rfl)) rfl
theorem wd168 : Cond.fieldLink RX5 131 "RiddleMill$Puzzle" "columns" "I" ∈ bG := bm (t_in2 (List.mem_of_getElem? (i := 10) rfl)) rfl
theorem wd169 : Cond.fieldLink RX4 29 "RiddleMill$Puzzle" "rows" "I" ∈ bG := bm (t_in2 (List.mem_of_getElem? (i := 11) rfl)) rfl
theorem wd170 : Cond.fieldLink RX3 34 "RiddleMill$Puzzle" "rows" "I" ∈ bG := bm (t_in2 (List.mem_of_getElem? (i := 12) rfl)) rfl
theorem wd171 : Cond.fieldLink RX11 100 "RiddleMill$Puzzle" "rows" "I" ∈ bG := bm (t_in2 (List.mem_of_getElem? (i := 13) rfl)) rfl
theorem wd172 : Cond.fieldLink RX5 128 "RiddleMill$Puzzle" "rows" "I" ∈ bG := bm (t_in2 (List.mem_of_getElem? (i := 14) rfl)) rfl
theorem wd173 : Cond.fieldLink RX4 32 "RiddleMill$Puzzle" "highest" "I" ∈ bG := bm (t_in2 (List.mem_of_getElem? (i := 15) rfl)) rfl
theorem wd174 : Cond.fieldLink RX2 25 "RiddleMill$Puzzle" "highest" "I" ∈ bG := bm (t_in2 (List.mem_of_getElem? (i := 16) rfl)) rfl
theorem wd175 : Cond.fieldLink RX3 37 "RiddleMill$Puzzle" "highest" "I" ∈ bG := bm (t_in2 (List.mem_of_getElem? (i := 17) rfl)) rfl
theorem wd176 : Cond.fieldLink RX6 34 "RiddleMill$Puzzle" "highest" "I" ∈ bG := bm (t_in2 (List.mem_of_getElem? (i := 18) rfl)) rfl
theorem wd177 : Cond.fieldLink RX8 63 "RiddleMill$Puzzle" "highest" "I" ∈ bG := bm (t_in2 (List.mem_of_getElem? (i := 19) rfl)) rfl
theorem wd178 : Cond.fieldLink RX11 103 "RiddleMill$Puzzle" "highest" "I" ∈ bG := bm (t_in2 (List.mem_of_getElem? (i := 20) rfl)) rfl
theorem wd179 : Cond.fieldLink RX5 137 "RiddleMill$Puzzle" "highest" "I" ∈ bG := bm (t_in2 (List.mem_of_getElem? (i := 21) rfl)) rfl
theorem wd180 : Cond.fieldLink RX4 9 "RiddleMill$Puzzle" "grid" "[I" ∈ bG := bm (t_in2 (List.mem_of_getElem? (i := 22) rfl)) rfl
theorem wd181 : Cond.fieldLink RX6 31 "RiddleMill$Puzzle" "grid" "[I" ∈ bG := bm (t_in2 (List.mem_of_getElem? (i := 23) rfl)) rfl
theorem wd182 : Cond.fieldLink RX8 36 "RiddleMill$Puzzle" "grid" "[I" ∈ bG := bm (t_in2 (List.mem_of_getElem? (i := 24) rfl)) rfl
theorem wd183 : Cond.fieldLink RX11 160 "RiddleMill$Puzzle" "grid" "[I" ∈ bG := bm (t_in2 (List.mem_of_getElem? (i := 25) rfl)) rfl
theorem wd184 : Cond.fieldLink RX4 17 "RiddleMill$Puzzle" "rules" "[LRiddleMill$Rule;" ∈ bG := bm (t_in2 (List.mem_of_getElem? (i := 26) rfl)) rfl
theorem wd185 : Cond.fieldLink RX3 46 "RiddleMill$Puzzle" "rules" "[LRiddleMill$Rule;" ∈ bG := bm (t_in2 (List.mem_of_getElem? (i := 27) rfl)) rfl
theorem wd186 : Cond.fieldLink RX6 50 "RiddleMill$Puzzle" "rules" "[LRiddleMill$Rule;" ∈ bG := bm (t_in2 (List.mem_of_getElem? (i := 28) rfl)) rfl
theorem wd187 : Cond.fieldLink RX11 134 "RiddleMill$Puzzle" "rules" "[LRiddleMill$Rule;" ∈ bG := bm (t_in2 (List.mem_of_getElem? (i := 29) rfl)) rfl
theorem wd188 : Cond.fieldLink RX4 35 "RiddleMill$Puzzle" "ruleCount" "I" ∈ bG := bm (t_in2 (List.mem_of_getElem? (i := 30) rfl)) rfl
theorem wd189 : Cond.fieldLink RX3 43 "RiddleMill$Puzzle" "ruleCount" "I" ∈ bG := bm (t_in2 (List.mem_of_getElem? (i := 31) rfl)) rfl
theorem wd190 : Cond.fieldLink RX6 47 "RiddleMill$Puzzle" "ruleCount" "I" ∈ bG := bm (t_in2 (List.mem_of_getElem? (i := 32) rfl)) rfl
theorem wd191 : Cond.fieldLink RX11 106 "RiddleMill$Puzzle" "ruleCount" "I" ∈ bG := bm (t_in2 (List.mem_of_getElem? (i := 33) rfl)) rfl
theorem wd192 : Cond.fieldLink RX5 95 "RiddleMill$Puzzle" "ruleCount" "I" ∈ bG := bm (t_in2 (List.mem_of_getElem? (i := 34) rfl)) rfl
theorem wd193 : Cond.fieldLink RX4 21 "RiddleMill$Puzzle" "places" "[I" ∈ bG := bm (t_in2 (List.mem_of_getElem? (i := 35) rfl)) rfl
theorem wd194 : Cond.fieldLink RX11 10 "RiddleMill" "tape" "LRiddleMill$Tape;" ∈ bG := bm (t_in2 (List.mem_of_getElem? (i := 51) rfl)) rfl
theorem wd195 : Cond.fieldLink RX11 19 "RiddleMill" "reader" "LRiddleMill$PuzzleReader;" ∈ bG := bm (t_in2 (List.mem_of_getElem? (i := 52) rfl)) rfl
theorem wd196 : Cond.fieldLink RX11 26 "RiddleMill" "paper" "LRiddleMill$Paper;" ∈ bG := bm (t_in2 (List.mem_of_getElem? (i := 53) rfl)) rfl
theorem wd197 : Cond.fieldLink RX11 33 "RiddleMill" "kept" "LRiddleMill$Search;" ∈ bG := bm (t_in2 (List.mem_of_getElem? (i := 54) rfl)) rfl
theorem wd198 : Cond.fieldLink RX11 37 "RiddleMill" "probe" "LRiddleMill$Search;" ∈ bG := bm (t_in2 (List.mem_of_getElem? (i := 55) rfl)) rfl
theorem wd199 : Cond.fieldLink RX11 43 "RiddleMill" "reasoner" "LRiddleMill$Reasoner;" ∈ bG := bm (t_in2 (List.mem_of_getElem? (i := 56) rfl)) rfl
theorem wd200 : Cond.fieldLink RX11 50 "RiddleMill" "maker" "LRiddleMill$Maker;" ∈ bG := bm (t_in2 (List.mem_of_getElem? (i := 57) rfl)) rfl
theorem wd201 : Cond.fieldLink RX11 57 "RiddleMill" "puzzle" "LRiddleMill$Puzzle;" ∈ bG := bm (t_in2 (List.mem_of_getElem? (i := 58) rfl)) rfl
theorem wd202 : Cond.fieldLink RX11 61 "RiddleMill" "draft" "LRiddleMill$Puzzle;" ∈ bG := bm (t_in2 (List.mem_of_getElem? (i := 59) rfl)) rfl
theorem wd203 : Cond.methodLink RL 47 yX11_compile ∈ bG := bm (t_in2 (List.mem_of_getElem? (i := 79) rfl)) rfl
theorem wd204 : Cond.instanceMethod yX11_compile ∈ bG := bm (t_in2 (List.mem_of_getElem? (i := 80) rfl)) rfl
theorem wd205 : Cond.selects RX11 yX11_compile yX11_compile ∈ bG := bm (t_in2 (List.mem_of_getElem? (i := 81) rfl)) rfl
theorem wd206 : Cond.code yX11_compile prog_1_method_4_code 1 (some .int) ∈ bG := bm (t_in2 (List.mem_of_getElem? (i := 82) rfl)) rfl
theorem wd207 : Cond.methodLink RX11 84 yX5_readInto ∈ bG := bm (t_in2 (List.mem_of_getElem? (i := 83) rfl)) rfl
theorem wd208 : Cond.instanceMethod yX5_readInto ∈ bG := bm (t_in2 (List.mem_of_getElem? (i := 84) rfl)) rfl
theorem wd209 : Cond.selects RX5 yX5_readInto yX5_readInto ∈ bG := bm (t_in2 (List.mem_of_getElem? (i := 85) rfl)) rfl
theorem wd210 : Cond.code yX5_readInto prog_7_method_2_code 3 (some .boolean) ∈ bG := bm (t_in2 (List.mem_of_getElem? (i := 86) rfl)) rfl
theorem wd211 : Cond.methodLink RX5 25 yX10_split ∈ bG := bm (t_in2 (List.mem_of_getElem? (i := 87) rfl)) rfl
theorem wd212 : Cond.instanceMethod yX10_split ∈ bG := bm (t_in2 (List.mem_of_getElem? (i := 88) rfl)) rfl
theorem wd213 : Cond.selects RX10 yX10_split yX10_split ∈ bG := bm (t_in2 (List.mem_of_getElem? (i := 89) rfl)) rfl
theorem wd214 : Cond.code yX10_split prog_12_method_5_code 7 none ∈ bG := bm (t_in2 (List.mem_of_getElem? (i := 90) rfl)) rfl
theorem wd215 : Cond.methodLink RX10 25 yX10_skipBlanks ∈ bG := bm (t_in2 (List.mem_of_getElem? (i := 91) rfl)) rfl
theorem wd216 : Cond.static yX10_skipBlanks ∈ bG := bm (t_in2 (List.mem_of_getElem? (i := 92) rfl)) rfl
theorem wd217 : Cond.code yX10_skipBlanks prog_12_method_11_code 3 (some .int) ∈ bG := bm (t_in2 (List.mem_of_getElem? (i := 93) rfl)) rfl
theorem wd218 : Cond.methodLink RX10 34 yX9_byteOrNone ∈ bG := bm (t_in2 (List.mem_of_getElem? (i := 94) rfl)) rfl
theorem wd219 : Cond.instanceMethod yX9_byteOrNone ∈ bG := bm (t_in2 (List.mem_of_getElem? (i := 95) rfl)) rfl
theorem wd220 : Cond.selects RX9 yX9_byteOrNone yX9_byteOrNone ∈ bG := bm (t_in2 (List.mem_of_getElem? (i := 96) rfl)) rfl
theorem wd221 : Cond.code yX9_byteOrNone prog_11_method_3_code 2 (some .int) ∈ bG := bm (t_in2 (List.mem_of_getElem? (i := 97) rfl)) rfl
theorem wd222 : Cond.methodLink RX10 91 yX10_isBlank ∈ bG := bm (t_in2 (List.mem_of_getElem? (i := 98) rfl)) rfl
theorem wd223 : Cond.static yX10_isBlank ∈ bG := bm (t_in2 (List.mem_of_getElem? (i := 99) rfl)) rfl
theorem wd224 : Cond.code yX10_isBlank prog_12_method_12_code 1 (some .boolean) ∈ bG := bm (t_in2 (List.mem_of_getElem? (i := 100) rfl)) rfl
theorem wd225 : Cond.methodLink RX10 38 yX10_isDigit ∈ bG := bm (t_in2 (List.mem_of_getElem? (i := 101) rfl)) rfl
theorem wd226 : Cond.static yX10_isDigit ∈ bG := bm (t_in2 (List.mem_of_getElem? (i := 102) rfl)) rfl
theorem wd227 : Cond.code yX10_isDigit prog_12_method_13_code 1 (some .boolean) ∈ bG := bm (t_in2 (List.mem_of_getElem? (i := 103) rfl)) rfl
theorem wd228 : Cond.methodLink RX10 42 yX10_addNumber ∈ bG := bm (t_in2 (List.mem_of_getElem? (i := 104) rfl)) rfl
theorem wd229 : Cond.instanceMethod yX10_addNumber ∈ bG := bm (t_in2 (List.mem_of_getElem? (i := 106) rfl)) rfl
theorem wd230 : Cond.code yX10_addNumber prog_12_method_7_code 5 (some .int) ∈ bG := bm (t_in2 (List.mem_of_getElem? (i := 107) rfl)) rfl
theorem wd231 : Cond.methodLink RX10 48 yX10_add ∈ bG := bm (t_in2 (List.mem_of_getElem? (i := 108) rfl)) rfl
theorem wd232 : Cond.instanceMethod yX10_add ∈ bG := bm (t_in2 (List.mem_of_getElem? (i := 110) rfl)) rfl
theorem wd233 : Cond.code yX10_add prog_12_method_6_code 4 none ∈ bG := bm (t_in2 (List.mem_of_getElem? (i := 111) rfl)) rfl
theorem wd234 : Cond.methodLink RX10 45 yX10_isLetter ∈ bG := bm (t_in2 (List.mem_of_getElem? (i := 112) rfl)) rfl
theorem wd235 : Cond.static yX10_isLetter ∈ bG := bm (t_in2 (List.mem_of_getElem? (i := 113) rfl)) rfl
theorem wd236 : Cond.code yX10_isLetter prog_12_method_14_code 1 (some .boolean) ∈ bG := bm (t_in2 (List.mem_of_getElem? (i := 114) rfl)) rfl
theorem wd237 : Cond.methodLink RX10 52 yX10_addWord ∈ bG := bm (t_in2 (List.mem_of_getElem? (i := 115) rfl)) rfl
theorem wd238 : Cond.instanceMethod yX10_addWord ∈ bG := bm (t_in2 (List.mem_of_getElem? (i := 117) rfl)) rfl
theorem wd239 : Cond.code yX10_addWord prog_12_method_8_code 5 (some .int) ∈ bG := bm (t_in2 (List.mem_of_getElem? (i := 118) rfl)) rfl
theorem wd240 : Cond.methodLink RX10 55 yX10_wordNumber ∈ bG := bm (t_in2 (List.mem_of_getElem? (i := 119) rfl)) rfl
theorem wd241 : Cond.static yX10_wordNumber ∈ bG := bm (t_in2 (List.mem_of_getElem? (i := 120) rfl)) rfl
theorem wd242 : Cond.code yX10_wordNumber prog_12_method_9_code 4 (some .int) ∈ bG := bm (t_in2 (List.mem_of_getElem? (i := 121) rfl)) rfl
theorem wd243 : Cond.fieldLinkNest RX10 59 "RiddleMill$Kind" "ALL" "[LRiddleMill$Kind;" "RiddleMill" ∈ lw_tbl := t_in2 (List.mem_of_getElem? (i := 122) rfl)
theorem wd244 : Cond.laysStatic "RiddleMill$Kind" "ALL" "[LRiddleMill$Kind;" ∈ lw_tbl := t_in2 (List.mem_of_getElem? (i := 123) rfl)
theorem wd245 : Cond.methodLink RX10 69 yX10_isWord ∈ bG := bm (t_in2 (List.mem_of_getElem? (i := 124) rfl)) rfl
theorem wd246 : Cond.static yX10_isWord ∈ bG := bm (t_in2 (List.mem_of_getElem? (i := 125) rfl)) rfl
theorem wd247 : Cond.code yX10_isWord prog_12_method_10_code 5 (some .boolean) ∈ bG := bm (t_in2 (List.mem_of_getElem? (i := 126) rfl)) rfl
theorem wd248 : Cond.methodLink RX10 82 yJ0_length_8abf5 ∈ bG := bm (t_in2 (List.mem_of_getElem? (i := 127) rfl)) rfl
theorem wd249 : Cond.instanceMethod yJ0_length_8abf5 ∈ bG := bm (t_in2 (List.mem_of_getElem? (i := 128) rfl)) rfl
theorem wd250 : Cond.selects "java/lang/String" yJ0_length_8abf5 yJ0_length_8abf5 ∈ bG := bm (t_in2 (List.mem_of_getElem? (i := 129) rfl)) rfl
theorem wd251 : Cond.code yJ0_length_8abf5 prog_23_method_54_code 1 (some .int) ∈ bG := bm (t_in2 (List.mem_of_getElem? (i := 130) rfl)) rfl
theorem wd252 : Cond.methodLink "java/lang/String" 335 yJ0_coder_7d493 ∈ bG := bm (t_in2 (List.mem_of_getElem? (i := 131) rfl)) rfl
theorem wd253 : Cond.instanceMethod yJ0_coder_7d493 ∈ bG := bm (t_in2 (List.mem_of_getElem? (i := 132) rfl)) rfl
theorem wd254 : Cond.selects "java/lang/String" yJ0_coder_7d493 yJ0_coder_7d493 ∈ bG := bm (t_in2 (List.mem_of_getElem? (i := 133) rfl)) rfl
theorem wd255 : Cond.code yJ0_coder_7d493 prog_23_method_152_code 1 (some .byte) ∈ bG := bm (t_in2 (List.mem_of_getElem? (i := 134) rfl)) rfl
theorem wd256 : Cond.fieldLink "java/lang/String" 38 "java/lang/String" "COMPACT_STRINGS" "Z" ∈ bG := bm (t_in2 (List.mem_of_getElem? (i := 135) rfl)) rfl
theorem wd257 : Cond.laysStatic "java/lang/String" "COMPACT_STRINGS" "Z" ∈ lw_tbl := t_in2 (List.mem_of_getElem? (i := 136) rfl)
theorem wd258 : Cond.methodLink RX10 87 yJ0_charAt_5068e ∈ bG := bm (t_in2 (List.mem_of_getElem? (i := 137) rfl)) rfl
theorem wd259 : Cond.instanceMethod yJ0_charAt_5068e ∈ bG := bm (t_in2 (List.mem_of_getElem? (i := 138) rfl)) rfl
theorem wd260 : Cond.selects "java/lang/String" yJ0_charAt_5068e yJ0_charAt_5068e ∈ bG := bm (t_in2 (List.mem_of_getElem? (i := 139) rfl)) rfl
theorem wd261 : Cond.code yJ0_charAt_5068e prog_23_method_56_code 2 (some .char) ∈ bG := bm (t_in2 (List.mem_of_getElem? (i := 140) rfl)) rfl
theorem wd262 : Cond.methodLink "java/lang/String" 492 yJ0_isLatin1_aae02 ∈ bG := bm (t_in2 (List.mem_of_getElem? (i := 141) rfl)) rfl
theorem wd263 : Cond.instanceMethod yJ0_isLatin1_aae02 ∈ bG := bm (t_in2 (List.mem_of_getElem? (i := 142) rfl)) rfl
theorem wd264 : Cond.selects "java/lang/String" yJ0_isLatin1_aae02 yJ0_isLatin1_aae02 ∈ bG := bm (t_in2 (List.mem_of_getElem? (i := 143) rfl)) rfl
theorem wd265 : Cond.code yJ0_isLatin1_aae02 prog_23_method_154_code 1 (some .boolean) ∈ bG := bm (t_in2 (List.mem_of_getElem? (i := 144) rfl)) rfl
theorem wd266 : Cond.methodLink "java/lang/String" 495 yJ1_charAt_3b067 ∈ bG := bm (t_in2 (List.mem_of_getElem? (i := 145) rfl)) rfl
theorem wd267 : Cond.static yJ1_charAt_3b067 ∈ bG := bm (t_in2 (List.mem_of_getElem? (i := 146) rfl)) rfl
theorem wd268 : Cond.code yJ1_charAt_3b067 prog_24_method_2_code 2 (some .char) ∈ bG := bm (t_in2 (List.mem_of_getElem? (i := 147) rfl)) rfl
theorem wd269 : Cond.methodLink "java/lang/StringLatin1" 9 yJ0_checkIndex_df160 ∈ bG := bm (t_in2 (List.mem_of_getElem? (i := 148) rfl)) rfl
theorem wd270 : Cond.static yJ0_checkIndex_df160 ∈ bG := bm (t_in2 (List.mem_of_getElem? (i := 149) rfl)) rfl
theorem wd271 : Cond.code yJ0_checkIndex_df160 prog_23_method_155_code 2 none ∈ bG := bm (t_in2 (List.mem_of_getElem? (i := 150) rfl)) rfl
theorem wd272 : Cond.fieldLink "java/lang/String" 1053 "jdk/internal/util/Preconditions" "SIOOBE_FORMATTER" "Ljava/util/function/BiFunction;" ∈ bG := bm (t_in2 (List.mem_of_getElem? (i := 151) rfl)) rfl
theorem wd273 : Cond.laysStatic "jdk/internal/util/Preconditions" "SIOOBE_FORMATTER" "Ljava/util/function/BiFunction;" ∈ lw_tbl := t_in2 (List.mem_of_getElem? (i := 152) rfl)
theorem wd274 : Cond.methodLink "java/lang/String" 1059 yJ3_checkIndex_8e157 ∈ bG := bm (t_in2 (List.mem_of_getElem? (i := 153) rfl)) rfl
theorem wd275 : Cond.static yJ3_checkIndex_8e157 ∈ bG := bm (t_in2 (List.mem_of_getElem? (i := 154) rfl)) rfl
theorem wd276 : Cond.code yJ3_checkIndex_8e157 prog_27_method_11_code 3 (some .int) ∈ bG := bm (t_in2 (List.mem_of_getElem? (i := 155) rfl)) rfl
theorem wd277 : Cond.methodLink "java/lang/String" 498 yJ2_charAt_3b067 ∈ bG := bm (t_in2 (List.mem_of_getElem? (i := 156) rfl)) rfl
theorem wd278 : Cond.static yJ2_charAt_3b067 ∈ bG := bm (t_in2 (List.mem_of_getElem? (i := 157) rfl)) rfl
theorem wd279 : Cond.code yJ2_charAt_3b067 prog_25_method_83_code 2 (some .char) ∈ bG := bm (t_in2 (List.mem_of_getElem? (i := 158) rfl)) rfl
theorem wd280 : Cond.methodLink "java/lang/StringUTF16" 67 yJ2_checkIndex_2214a ∈ bG := bm (t_in2 (List.mem_of_getElem? (i := 159) rfl)) rfl
theorem wd281 : Cond.static yJ2_checkIndex_2214a ∈ bG := bm (t_in2 (List.mem_of_getElem? (i := 160) rfl)) rfl
theorem wd282 : Cond.code yJ2_checkIndex_2214a prog_25_method_91_code 2 none ∈ bG := bm (t_in2 (List.mem_of_getElem? (i := 161) rfl)) rfl
theorem wd283 : Cond.methodLink "java/lang/StringUTF16" 48 yJ2_length_9d52b ∈ bG := bm (t_in2 (List.mem_of_getElem? (i := 162) rfl)) rfl
theorem wd284 : Cond.static yJ2_length_9d52b ∈ bG := bm (t_in2 (List.mem_of_getElem? (i := 163) rfl)) rfl
theorem wd285 : Cond.code yJ2_length_9d52b prog_25_method_6_code 1 (some .int) ∈ bG := bm (t_in2 (List.mem_of_getElem? (i := 164) rfl)) rfl
theorem wd286 : Cond.methodLink "java/lang/StringUTF16" 414 yJ0_checkIndex_df160 ∈ bG := bm (t_in2 (List.mem_of_getElem? (i := 165) rfl)) rfl
theorem wd287 : Cond.methodLink "java/lang/StringUTF16" 71 yJ2_getChar_3b067 ∈ bG := bm (t_in2 (List.mem_of_getElem? (i := 166) rfl)) rfl
theorem wd288 : Cond.static yJ2_getChar_3b067 ∈ bG := bm (t_in2 (List.mem_of_getElem? (i := 167) rfl)) rfl
theorem wd289 : Cond.code yJ2_getChar_3b067 prog_25_method_5_code 2 (some .char) ∈ bG := bm (t_in2 (List.mem_of_getElem? (i := 168) rfl)) rfl
theorem wd290 : Cond.fieldLink "java/lang/StringUTF16" 44 "java/lang/StringUTF16" "$assertionsDisabled" "Z" ∈ bG := bm (t_in2 (List.mem_of_getElem? (i := 169) rfl)) rfl
theorem wd291 : Cond.laysStatic "java/lang/StringUTF16" "$assertionsDisabled" "Z" ∈ lw_tbl := t_in2 (List.mem_of_getElem? (i := 170) rfl)
theorem wd292 : Cond.fieldLink "java/lang/StringUTF16" 59 "java/lang/StringUTF16" "HI_BYTE_SHIFT" "I" ∈ bG := bm (t_in2 (List.mem_of_getElem? (i := 171) rfl)) rfl
theorem wd293 : Cond.laysStatic "java/lang/StringUTF16" "HI_BYTE_SHIFT" "I" ∈ lw_tbl := t_in2 (List.mem_of_getElem? (i := 172) rfl)
theorem wd294 : Cond.fieldLink "java/lang/StringUTF16" 63 "java/lang/StringUTF16" "LO_BYTE_SHIFT" "I" ∈ bG := bm (t_in2 (List.mem_of_getElem? (i := 173) rfl)) rfl
theorem wd295 : Cond.laysStatic "java/lang/StringUTF16" "LO_BYTE_SHIFT" "I" ∈ lw_tbl := t_in2 (List.mem_of_getElem? (i := 174) rfl)
theorem wd296 : Cond.stringRef RX10 76 "rows" ∈ lw_tbl := t_in2 (List.mem_of_getElem? (i := 175) rfl)
theorem wd297 : Cond.stringRef RX10 78 "columns" ∈ lw_tbl := t_in2 (List.mem_of_getElem? (i := 176) rfl)
theorem wd298 : Cond.stringRef RX10 80 "grid" ∈ lw_tbl := t_in2 (List.mem_of_getElem? (i := 177) rfl)
theorem wd299 : Cond.methodLink RX5 29 yX5_hasForm ∈ bG := bm (t_in2 (List.mem_of_getElem? (i := 178) rfl)) rfl
theorem wd300 : Cond.instanceMethod yX5_hasForm ∈ bG := bm (t_in2 (List.mem_of_getElem? (i := 180) rfl)) rfl
theorem wd301 : Cond.code yX5_hasForm prog_7_method_4_code 2 (some .boolean) ∈ bG := bm (t_in2 (List.mem_of_getElem? (i := 181) rfl)) rfl
theorem wd302 : Cond.methodLink RX5 51 yX10_numberAt ∈ bG := bm (t_in2 (List.mem_of_getElem? (i := 182) rfl)) rfl
theorem wd303 : Cond.instanceMethod yX10_numberAt ∈ bG := bm (t_in2 (List.mem_of_getElem? (i := 183) rfl)) rfl
theorem wd304 : Cond.selects RX10 yX10_numberAt yX10_numberAt ∈ bG := bm (t_in2 (List.mem_of_getElem? (i := 184) rfl)) rfl
theorem wd305 : Cond.code yX10_numberAt prog_12_method_4_code 2 (some .int) ∈ bG := bm (t_in2 (List.mem_of_getElem? (i := 185) rfl)) rfl
theorem wd306 : Cond.methodLink RX5 54 yX5_passes ∈ bG := bm (t_in2 (List.mem_of_getElem? (i := 186) rfl)) rfl
theorem wd307 : Cond.instanceMethod yX5_passes ∈ bG := bm (t_in2 (List.mem_of_getElem? (i := 188) rfl)) rfl
theorem wd308 : Cond.code yX5_passes prog_7_method_5_code 4 (some .boolean) ∈ bG := bm (t_in2 (List.mem_of_getElem? (i := 189) rfl)) rfl
theorem wd309 : Cond.methodLink RX5 61 yX10_typeAt ∈ bG := bm (t_in2 (List.mem_of_getElem? (i := 190) rfl)) rfl
theorem wd310 : Cond.instanceMethod yX10_typeAt ∈ bG := bm (t_in2 (List.mem_of_getElem? (i := 191) rfl)) rfl
theorem wd311 : Cond.selects RX10 yX10_typeAt yX10_typeAt ∈ bG := bm (t_in2 (List.mem_of_getElem? (i := 192) rfl)) rfl
theorem wd312 : Cond.code yX10_typeAt prog_12_method_2_code 2 (some .int) ∈ bG := bm (t_in2 (List.mem_of_getElem? (i := 193) rfl)) rfl
theorem wd313 : Cond.methodLink RX5 64 yX5_passesRule ∈ bG := bm (t_in2 (List.mem_of_getElem? (i := 194) rfl)) rfl
theorem wd314 : Cond.instanceMethod yX5_passesRule ∈ bG := bm (t_in2 (List.mem_of_getElem? (i := 196) rfl)) rfl
theorem wd315 : Cond.code yX5_passesRule prog_7_method_6_code 3 (some .boolean) ∈ bG := bm (t_in2 (List.mem_of_getElem? (i := 197) rfl)) rfl
theorem wd316 : Cond.fieldLinkNest RX5 67 "RiddleMill$Kind" "ALL" "[LRiddleMill$Kind;" "RiddleMill" ∈ lw_tbl := t_in2 (List.mem_of_getElem? (i := 198) rfl)
theorem wd317 : Cond.methodLink RX5 79 yX5_passesCells ∈ bG := bm (t_in2 (List.mem_of_getElem? (i := 199) rfl)) rfl
theorem wd318 : Cond.instanceMethod yX5_passesCells ∈ bG := bm (t_in2 (List.mem_of_getElem? (i := 201) rfl)) rfl
theorem wd319 : Cond.code yX5_passesCells prog_7_method_7_code 3 (some .boolean) ∈ bG := bm (t_in2 (List.mem_of_getElem? (i := 202) rfl)) rfl
theorem wd320 : Cond.fieldLink RX5 82 "RiddleMill$Kind" "IS" "LRiddleMill$Kind;" ∈ bG := bm (t_in2 (List.mem_of_getElem? (i := 203) rfl)) rfl
theorem wd321 : Cond.laysStatic "RiddleMill$Kind" "IS" "LRiddleMill$Kind;" ∈ lw_tbl := t_in2 (List.mem_of_getElem? (i := 204) rfl)
theorem wd322 : Cond.methodLink RX5 33 yX5_fail ∈ bG := bm (t_in2 (List.mem_of_getElem? (i := 205) rfl)) rfl
theorem wd323 : Cond.instanceMethod yX5_fail ∈ bG := bm (t_in2 (List.mem_of_getElem? (i := 207) rfl)) rfl
theorem wd324 : Cond.code yX5_fail prog_7_method_3_code 2 (some .boolean) ∈ bG := bm (t_in2 (List.mem_of_getElem? (i := 208) rfl)) rfl
theorem wd325 : Cond.methodLink RX5 47 yX10_startAt ∈ bG := bm (t_in2 (List.mem_of_getElem? (i := 209) rfl)) rfl
theorem wd326 : Cond.instanceMethod yX10_startAt ∈ bG := bm (t_in2 (List.mem_of_getElem? (i := 210) rfl)) rfl
theorem wd327 : Cond.selects RX10 yX10_startAt yX10_startAt ∈ bG := bm (t_in2 (List.mem_of_getElem? (i := 211) rfl)) rfl
theorem wd328 : Cond.code yX10_startAt prog_12_method_3_code 2 (some .int) ∈ bG := bm (t_in2 (List.mem_of_getElem? (i := 212) rfl)) rfl
theorem wd329 : Cond.methodLink RX5 37 yX5_readSizes ∈ bG := bm (t_in2 (List.mem_of_getElem? (i := 213) rfl)) rfl
theorem wd330 : Cond.instanceMethod yX5_readSizes ∈ bG := bm (t_in2 (List.mem_of_getElem? (i := 215) rfl)) rfl
theorem wd331 : Cond.code yX5_readSizes prog_7_method_8_code 3 (some .boolean) ∈ bG := bm (t_in2 (List.mem_of_getElem? (i := 216) rfl)) rfl
theorem wd332 : Cond.methodLink RX5 86 yX4_begin ∈ bG := bm (t_in2 (List.mem_of_getElem? (i := 217) rfl)) rfl
theorem wd333 : Cond.instanceMethod yX4_begin ∈ bG := bm (t_in2 (List.mem_of_getElem? (i := 218) rfl)) rfl
theorem wd334 : Cond.selects RX4 yX4_begin yX4_begin ∈ bG := bm (t_in2 (List.mem_of_getElem? (i := 219) rfl)) rfl
theorem wd335 : Cond.code yX4_begin prog_6_method_2_code 4 none ∈ bG := bm (t_in2 (List.mem_of_getElem? (i := 220) rfl)) rfl
theorem wd336 : Cond.methodLink RX4 38 yX4_emptyGrid ∈ bG := bm (t_in2 (List.mem_of_getElem? (i := 221) rfl)) rfl
theorem wd337 : Cond.instanceMethod yX4_emptyGrid ∈ bG := bm (t_in2 (List.mem_of_getElem? (i := 222) rfl)) rfl
theorem wd338 : Cond.selects RX4 yX4_emptyGrid yX4_emptyGrid ∈ bG := bm (t_in2 (List.mem_of_getElem? (i := 223) rfl)) rfl
theorem wd339 : Cond.code yX4_emptyGrid prog_6_method_5_code 2 none ∈ bG := bm (t_in2 (List.mem_of_getElem? (i := 224) rfl)) rfl
theorem wd340 : Cond.methodLink RX5 41 yX5_readRules ∈ bG := bm (t_in2 (List.mem_of_getElem? (i := 225) rfl)) rfl
theorem wd341 : Cond.instanceMethod yX5_readRules ∈ bG := bm (t_in2 (List.mem_of_getElem? (i := 227) rfl)) rfl
theorem wd342 : Cond.code yX5_readRules prog_7_method_9_code 3 (some .boolean) ∈ bG := bm (t_in2 (List.mem_of_getElem? (i := 228) rfl)) rfl
theorem wd343 : Cond.methodLink RX5 92 yX5_readRule ∈ bG := bm (t_in2 (List.mem_of_getElem? (i := 229) rfl)) rfl
theorem wd344 : Cond.instanceMethod yX5_readRule ∈ bG := bm (t_in2 (List.mem_of_getElem? (i := 231) rfl)) rfl
theorem wd345 : Cond.code yX5_readRule prog_7_method_10_code 4 (some .boolean) ∈ bG := bm (t_in2 (List.mem_of_getElem? (i := 232) rfl)) rfl
theorem wd346 : Cond.methodLink RX5 98 yX5_rulesOf ∈ bG := bm (t_in2 (List.mem_of_getElem? (i := 233) rfl)) rfl
theorem wd347 : Cond.static yX5_rulesOf ∈ bG := bm (t_in2 (List.mem_of_getElem? (i := 234) rfl)) rfl
theorem wd348 : Cond.code yX5_rulesOf prog_7_method_11_code 2 (some .int) ∈ bG := bm (t_in2 (List.mem_of_getElem? (i := 235) rfl)) rfl
theorem wd349 : Cond.methodLink RX5 102 yX4_addRowRules ∈ bG := bm (t_in2 (List.mem_of_getElem? (i := 236) rfl)) rfl
theorem wd350 : Cond.instanceMethod yX4_addRowRules ∈ bG := bm (t_in2 (List.mem_of_getElem? (i := 237) rfl)) rfl
theorem wd351 : Cond.selects RX4 yX4_addRowRules yX4_addRowRules ∈ bG := bm (t_in2 (List.mem_of_getElem? (i := 238) rfl)) rfl
theorem wd352 : Cond.code yX4_addRowRules prog_6_method_7_code 4 none ∈ bG := bm (t_in2 (List.mem_of_getElem? (i := 239) rfl)) rfl
theorem wd353 : Cond.fieldLink RX4 45 "RiddleMill$Kind" "DIFFER" "LRiddleMill$Kind;" ∈ bG := bm (t_in3 (List.mem_of_getElem? (i := 0) rfl)) rfl
theorem wd354 : Cond.methodLink RX4 51 yX4_addRule ∈ bG := bm (t_in3 (List.mem_of_getElem? (i := 1) rfl)) rfl
theorem wd355 : Cond.instanceMethod yX4_addRule ∈ bG := bm (t_in3 (List.mem_of_getElem? (i := 2) rfl)) rfl
theorem wd356 : Cond.selects RX4 yX4_addRule yX4_addRule ∈ bG := bm (t_in3 (List.mem_of_getElem? (i := 3) rfl)) rfl
theorem wd357 : Cond.code yX4_addRule prog_6_method_6_code 3 (some (.object "RiddleMill$Rule")) ∈ bG := bm (t_in3 (List.mem_of_getElem? (i := 4) rfl)) rfl
theorem wd358 : Cond.methodLink RX4 41 yX7_begin ∈ bG := bm (t_in3 (List.mem_of_getElem? (i := 5) rfl)) rfl
theorem wd359 : Cond.instanceMethod yX7_begin ∈ bG := bm (t_in3 (List.mem_of_getElem? (i := 6) rfl)) rfl
theorem wd360 : Cond.selects RX7 yX7_begin yX7_begin ∈ bG := bm (t_in3 (List.mem_of_getElem? (i := 7) rfl)) rfl
theorem wd361 : Cond.code yX7_begin prog_9_method_2_code 2 none ∈ bG := bm (t_in3 (List.mem_of_getElem? (i := 8) rfl)) rfl
theorem wd362 : Cond.methodLink RX4 55 yX7_addCell ∈ bG := bm (t_in3 (List.mem_of_getElem? (i := 9) rfl)) rfl
theorem wd363 : Cond.instanceMethod yX7_addCell ∈ bG := bm (t_in3 (List.mem_of_getElem? (i := 10) rfl)) rfl
theorem wd364 : Cond.selects RX7 yX7_addCell yX7_addCell ∈ bG := bm (t_in3 (List.mem_of_getElem? (i := 11) rfl)) rfl
theorem wd365 : Cond.code yX7_addCell prog_9_method_3_code 2 none ∈ bG := bm (t_in3 (List.mem_of_getElem? (i := 12) rfl)) rfl
theorem wd366 : Cond.methodLink RX5 105 yX4_addColumnRules ∈ bG := bm (t_in3 (List.mem_of_getElem? (i := 13) rfl)) rfl
theorem wd367 : Cond.instanceMethod yX4_addColumnRules ∈ bG := bm (t_in3 (List.mem_of_getElem? (i := 14) rfl)) rfl
theorem wd368 : Cond.selects RX4 yX4_addColumnRules yX4_addColumnRules ∈ bG := bm (t_in3 (List.mem_of_getElem? (i := 15) rfl)) rfl
theorem wd369 : Cond.code yX4_addColumnRules prog_6_method_8_code 4 none ∈ bG := bm (t_in3 (List.mem_of_getElem? (i := 16) rfl)) rfl
theorem wd370 : Cond.methodLink RX5 108 yX4_addRule ∈ bG := bm (t_in3 (List.mem_of_getElem? (i := 17) rfl)) rfl
theorem wd371 : Cond.methodLink RX5 117 yX5_readNumber ∈ bG := bm (t_in3 (List.mem_of_getElem? (i := 18) rfl)) rfl
theorem wd372 : Cond.instanceMethod yX5_readNumber ∈ bG := bm (t_in3 (List.mem_of_getElem? (i := 20) rfl)) rfl
theorem wd373 : Cond.code yX5_readNumber prog_7_method_12_code 3 (some .boolean) ∈ bG := bm (t_in3 (List.mem_of_getElem? (i := 21) rfl)) rfl
theorem wd374 : Cond.methodLink RX5 140 yX5_isAllowed ∈ bG := bm (t_in3 (List.mem_of_getElem? (i := 22) rfl)) rfl
theorem wd375 : Cond.static yX5_isAllowed ∈ bG := bm (t_in3 (List.mem_of_getElem? (i := 23) rfl)) rfl
theorem wd376 : Cond.code yX5_isAllowed prog_7_method_13_code 3 (some .boolean) ∈ bG := bm (t_in3 (List.mem_of_getElem? (i := 24) rfl)) rfl
theorem wd377 : Cond.fieldLink RX5 144 "RiddleMill$1" "$SwitchMap$RiddleMill$Kind" "[I" ∈ bG := bm (t_in3 (List.mem_of_getElem? (i := 25) rfl)) rfl
theorem wd378 : Cond.laysStatic "RiddleMill$1" "$SwitchMap$RiddleMill$Kind" "[I" ∈ lw_tbl := t_in3 (List.mem_of_getElem? (i := 26) rfl)
theorem wd379 : Cond.methodLink RX5 150 ⟨"RiddleMill$Kind", "ordinal", "()I"⟩ ∈ bG := bm (t_in3 (List.mem_of_getElem? (i := 27) rfl)) rfl
theorem wd380 : Cond.sameMethod RX1 "java/lang/Enum" "ordinal" "()I" ∈ bG := bm (t_in3 (List.mem_of_getElem? (i := 28) rfl)) rfl
theorem wd381 : Cond.declares yJx29ce0_ordinal_8abf5 ∈ lw_tbl := t_in3 (List.mem_of_getElem? (i := 29) rfl)
theorem wd382 : Cond.selects RX1 ⟨"RiddleMill$Kind", "ordinal", "()I"⟩ yJx29ce0_ordinal_8abf5 ∈ bG := bm (t_in3 (List.mem_of_getElem? (i := 30) rfl)) rfl
theorem wd383 : Cond.instanceMethod yJx29ce0_ordinal_8abf5 ∈ bG := bm (t_in3 (List.mem_of_getElem? (i := 31) rfl)) rfl
theorem wd384 : Cond.code yJx29ce0_ordinal_8abf5 prog_15_method_2_code 1 (some .int) ∈ bG := bm (t_in3 (List.mem_of_getElem? (i := 32) rfl)) rfl
theorem wd385 : Cond.methodLink RX5 121 yX5_readTimes ∈ bG := bm (t_in3 (List.mem_of_getElem? (i := 33) rfl)) rfl
theorem wd386 : Cond.instanceMethod yX5_readTimes ∈ bG := bm (t_in3 (List.mem_of_getElem? (i := 35) rfl)) rfl
theorem wd387 : Cond.code yX5_readTimes prog_7_method_14_code 2 (some .boolean) ∈ bG := bm (t_in3 (List.mem_of_getElem? (i := 36) rfl)) rfl
theorem wd388 : Cond.methodLink RX5 125 yX5_readCells ∈ bG := bm (t_in3 (List.mem_of_getElem? (i := 37) rfl)) rfl
theorem wd389 : Cond.instanceMethod yX5_readCells ∈ bG := bm (t_in3 (List.mem_of_getElem? (i := 39) rfl)) rfl
theorem wd390 : Cond.code yX5_readCells prog_7_method_15_code 7 (some .boolean) ∈ bG := bm (t_in3 (List.mem_of_getElem? (i := 40) rfl)) rfl
theorem wd391 : Cond.methodLink RX5 157 yX7_hasCell ∈ bG := bm (t_in3 (List.mem_of_getElem? (i := 41) rfl)) rfl
theorem wd392 : Cond.instanceMethod yX7_hasCell ∈ bG := bm (t_in3 (List.mem_of_getElem? (i := 42) rfl)) rfl
theorem wd393 : Cond.selects RX7 yX7_hasCell yX7_hasCell ∈ bG := bm (t_in3 (List.mem_of_getElem? (i := 43) rfl)) rfl
theorem wd394 : Cond.code yX7_hasCell prog_9_method_4_code 2 (some .boolean) ∈ bG := bm (t_in3 (List.mem_of_getElem? (i := 44) rfl)) rfl
theorem wd395 : Cond.methodLink RX5 163 yX7_addCell ∈ bG := bm (t_in3 (List.mem_of_getElem? (i := 45) rfl)) rfl
theorem wd396 : Cond.methodLink RX11 88 yX11_takeDraft ∈ bG := bm (t_in3 (List.mem_of_getElem? (i := 46) rfl)) rfl
theorem wd397 : Cond.instanceMethod yX11_takeDraft ∈ bG := bm (t_in3 (List.mem_of_getElem? (i := 48) rfl)) rfl
theorem wd398 : Cond.code yX11_takeDraft prog_1_method_30_code 2 none ∈ bG := bm (t_in3 (List.mem_of_getElem? (i := 49) rfl)) rfl
theorem wd399 : Cond.methodLink RX11 209 yX6_begin ∈ bG := bm (t_in3 (List.mem_of_getElem? (i := 50) rfl)) rfl
theorem wd400 : Cond.instanceMethod yX6_begin ∈ bG := bm (t_in3 (List.mem_of_getElem? (i := 51) rfl)) rfl
theorem wd401 : Cond.selects RX6 yX6_begin yX6_begin ∈ bG := bm (t_in3 (List.mem_of_getElem? (i := 52) rfl)) rfl
theorem wd402 : Cond.code yX6_begin prog_8_method_2_code 4 none ∈ bG := bm (t_in3 (List.mem_of_getElem? (i := 53) rfl)) rfl
theorem wd403 : Cond.methodLink RX6 25 yX4_cellCount ∈ bG := bm (t_in3 (List.mem_of_getElem? (i := 54) rfl)) rfl
theorem wd404 : Cond.instanceMethod yX4_cellCount ∈ bG := bm (t_in3 (List.mem_of_getElem? (i := 55) rfl)) rfl
theorem wd405 : Cond.selects RX4 yX4_cellCount yX4_cellCount ∈ bG := bm (t_in3 (List.mem_of_getElem? (i := 56) rfl)) rfl
theorem wd406 : Cond.code yX4_cellCount prog_6_method_4_code 1 (some .int) ∈ bG := bm (t_in3 (List.mem_of_getElem? (i := 57) rfl)) rfl
theorem wd407 : Cond.arrayClass .byte ∈ bG := bm (t_in3 (List.mem_of_getElem? (i := 58) rfl)) rfl
theorem wd408 : Cond.methodLink RL 30 yX11_count ∈ bG := bm (t_in3 (List.mem_of_getElem? (i := 59) rfl)) rfl
theorem wd409 : Cond.instanceMethod yX11_count ∈ bG := bm (t_in3 (List.mem_of_getElem? (i := 60) rfl)) rfl
theorem wd410 : Cond.selects RX11 yX11_count yX11_count ∈ bG := bm (t_in3 (List.mem_of_getElem? (i := 61) rfl)) rfl
theorem wd411 : Cond.code yX11_count prog_1_method_6_code 2 (some .int) ∈ bG := bm (t_in3 (List.mem_of_getElem? (i := 62) rfl)) rfl
theorem wd412 : Cond.methodLink RX11 109 yX4_countGivens ∈ bG := bm (t_in3 (List.mem_of_getElem? (i := 63) rfl)) rfl
theorem wd413 : Cond.instanceMethod yX4_countGivens ∈ bG := bm (t_in3 (List.mem_of_getElem? (i := 64) rfl)) rfl
theorem wd414 : Cond.selects RX4 yX4_countGivens yX4_countGivens ∈ bG := bm (t_in3 (List.mem_of_getElem? (i := 65) rfl)) rfl
theorem wd415 : Cond.code yX4_countGivens prog_6_method_12_code 3 (some .int) ∈ bG := bm (t_in3 (List.mem_of_getElem? (i := 66) rfl)) rfl
theorem wd416 : Cond.fieldLink RX4 59 "RiddleMill$Kind" "IS" "LRiddleMill$Kind;" ∈ bG := bm (t_in3 (List.mem_of_getElem? (i := 67) rfl)) rfl
theorem wd417 : Cond.methodLink RX11 113 yX4_countFilled ∈ bG := bm (t_in3 (List.mem_of_getElem? (i := 68) rfl)) rfl
theorem wd418 : Cond.instanceMethod yX4_countFilled ∈ bG := bm (t_in3 (List.mem_of_getElem? (i := 69) rfl)) rfl
theorem wd419 : Cond.selects RX4 yX4_countFilled yX4_countFilled ∈ bG := bm (t_in3 (List.mem_of_getElem? (i := 70) rfl)) rfl
theorem wd420 : Cond.code yX4_countFilled prog_6_method_13_code 3 (some .int) ∈ bG := bm (t_in3 (List.mem_of_getElem? (i := 71) rfl)) rfl
theorem wd421 : Cond.methodLink RX4 72 yX4_cellCount ∈ bG := bm (t_in3 (List.mem_of_getElem? (i := 72) rfl)) rfl
theorem wd422 : Cond.methodLink RX11 116 yX4_countBroken ∈ bG := bm (t_in3 (List.mem_of_getElem? (i := 73) rfl)) rfl
theorem wd423 : Cond.instanceMethod yX4_countBroken ∈ bG := bm (t_in3 (List.mem_of_getElem? (i := 74) rfl)) rfl
theorem wd424 : Cond.selects RX4 yX4_countBroken yX4_countBroken ∈ bG := bm (t_in3 (List.mem_of_getElem? (i := 75) rfl)) rfl
theorem wd425 : Cond.code yX4_countBroken prog_6_method_14_code 3 (some .int) ∈ bG := bm (t_in3 (List.mem_of_getElem? (i := 76) rfl)) rfl
theorem wd426 : Cond.methodLink RX4 76 yX7_isBroken ∈ bG := bm (t_in3 (List.mem_of_getElem? (i := 77) rfl)) rfl
theorem wd427 : Cond.instanceMethod yX7_isBroken ∈ bG := bm (t_in3 (List.mem_of_getElem? (i := 78) rfl)) rfl
theorem wd428 : Cond.selects RX7 yX7_isBroken yX7_isBroken ∈ bG := bm (t_in3 (List.mem_of_getElem? (i := 79) rfl)) rfl
theorem wd429 : Cond.code yX7_isBroken prog_9_method_9_code 3 (some .boolean) ∈ bG := bm (t_in3 (List.mem_of_getElem? (i := 80) rfl)) rfl
theorem wd430 : Cond.fieldLink RX7 48 "RiddleMill$1" "$SwitchMap$RiddleMill$Kind" "[I" ∈ bG := bm (t_in3 (List.mem_of_getElem? (i := 81) rfl)) rfl
theorem wd431 : Cond.methodLink RX7 53 ⟨"RiddleMill$Kind", "ordinal", "()I"⟩ ∈ bG := bm (t_in3 (List.mem_of_getElem? (i := 82) rfl)) rfl
theorem wd432 : Cond.methodLink RX7 57 yX7_hasPair ∈ bG := bm (t_in3 (List.mem_of_getElem? (i := 83) rfl)) rfl
theorem wd433 : Cond.instanceMethod yX7_hasPair ∈ bG := bm (t_in3 (List.mem_of_getElem? (i := 85) rfl)) rfl
theorem wd434 : Cond.code yX7_hasPair prog_9_method_10_code 7 (some .boolean) ∈ bG := bm (t_in3 (List.mem_of_getElem? (i := 86) rfl)) rfl
theorem wd435 : Cond.methodLink RX7 61 yX7_breaksSum ∈ bG := bm (t_in3 (List.mem_of_getElem? (i := 87) rfl)) rfl
theorem wd436 : Cond.instanceMethod yX7_breaksSum ∈ bG := bm (t_in3 (List.mem_of_getElem? (i := 89) rfl)) rfl
theorem wd437 : Cond.code yX7_breaksSum prog_9_method_11_code 7 (some .boolean) ∈ bG := bm (t_in3 (List.mem_of_getElem? (i := 90) rfl)) rfl
theorem wd438 : Cond.methodLink RX7 65 yX7_breaksProduct ∈ bG := bm (t_in3 (List.mem_of_getElem? (i := 91) rfl)) rfl
theorem wd439 : Cond.instanceMethod yX7_breaksProduct ∈ bG := bm (t_in3 (List.mem_of_getElem? (i := 93) rfl)) rfl
theorem wd440 : Cond.code yX7_breaksProduct prog_9_method_12_code 6 (some .boolean) ∈ bG := bm (t_in3 (List.mem_of_getElem? (i := 94) rfl)) rfl
theorem wd441 : Cond.methodLink RX7 69 yX7_breaksOrder ∈ bG := bm (t_in3 (List.mem_of_getElem? (i := 95) rfl)) rfl
theorem wd442 : Cond.instanceMethod yX7_breaksOrder ∈ bG := bm (t_in3 (List.mem_of_getElem? (i := 97) rfl)) rfl
theorem wd443 : Cond.code yX7_breaksOrder prog_9_method_13_code 6 (some .boolean) ∈ bG := bm (t_in3 (List.mem_of_getElem? (i := 98) rfl)) rfl
theorem wd444 : Cond.methodLink RX7 72 yX7_breaksSight ∈ bG := bm (t_in3 (List.mem_of_getElem? (i := 99) rfl)) rfl
theorem wd445 : Cond.instanceMethod yX7_breaksSight ∈ bG := bm (t_in3 (List.mem_of_getElem? (i := 101) rfl)) rfl
theorem wd446 : Cond.code yX7_breaksSight prog_9_method_14_code 6 (some .boolean) ∈ bG := bm (t_in3 (List.mem_of_getElem? (i := 102) rfl)) rfl
theorem wd447 : Cond.methodLink RX7 75 yX7_hasRemainder ∈ bG := bm (t_in3 (List.mem_of_getElem? (i := 103) rfl)) rfl
theorem wd448 : Cond.instanceMethod yX7_hasRemainder ∈ bG := bm (t_in3 (List.mem_of_getElem? (i := 105) rfl)) rfl
theorem wd449 : Cond.code yX7_hasRemainder prog_9_method_15_code 5 (some .boolean) ∈ bG := bm (t_in3 (List.mem_of_getElem? (i := 106) rfl)) rfl
theorem wd450 : Cond.methodLink RX7 78 yX7_breaksCount ∈ bG := bm (t_in3 (List.mem_of_getElem? (i := 107) rfl)) rfl
theorem wd451 : Cond.instanceMethod yX7_breaksCount ∈ bG := bm (t_in3 (List.mem_of_getElem? (i := 109) rfl)) rfl
theorem wd452 : Cond.code yX7_breaksCount prog_9_method_16_code 6 (some .boolean) ∈ bG := bm (t_in3 (List.mem_of_getElem? (i := 110) rfl)) rfl
theorem wd453 : Cond.methodLink RX7 81 yX7_breaksIs ∈ bG := bm (t_in3 (List.mem_of_getElem? (i := 111) rfl)) rfl
theorem wd454 : Cond.instanceMethod yX7_breaksIs ∈ bG := bm (t_in3 (List.mem_of_getElem? (i := 113) rfl)) rfl
theorem wd455 : Cond.code yX7_breaksIs prog_9_method_17_code 4 (some .boolean) ∈ bG := bm (t_in3 (List.mem_of_getElem? (i := 114) rfl)) rfl
theorem wd456 : Cond.methodLink RX7 84 yX7_breaksApart ∈ bG := bm (t_in3 (List.mem_of_getElem? (i := 115) rfl)) rfl
theorem wd457 : Cond.instanceMethod yX7_breaksApart ∈ bG := bm (t_in3 (List.mem_of_getElem? (i := 117) rfl)) rfl
theorem wd458 : Cond.code yX7_breaksApart prog_9_method_18_code 6 (some .boolean) ∈ bG := bm (t_in3 (List.mem_of_getElem? (i := 118) rfl)) rfl
theorem wd459 : Cond.classLink RX11 126 "java/lang/IndexOutOfBoundsException" ∈ bG := bm (t_in3 (List.mem_of_getElem? (i := 119) rfl)) rfl
theorem wd460 : Cond.instantiable "java/lang/IndexOutOfBoundsException" 6 ∈ bG := bm (t_in3 (List.mem_of_getElem? (i := 120) rfl)) rfl
theorem wd461 : Cond.castable "java/lang/IndexOutOfBoundsException" "java/lang/IndexOutOfBoundsException" ∈ lw_tbl := t_in3 (List.mem_of_getElem? (i := 121) rfl)
theorem wd462 : Cond.declares ⟨"java/lang/RuntimeException", "<init>", "()V"⟩ ∈ lw_tbl := t_in3 (List.mem_of_getElem? (i := 122) rfl)
theorem wd463 : Cond.declares ⟨"java/lang/RuntimeException", "<init>", "(Ljava/lang/String;)V"⟩ ∈ lw_tbl := t_in3 (List.mem_of_getElem? (i := 123) rfl)
theorem wd464 : Cond.declares ⟨"java/lang/Exception", "<init>", "()V"⟩ ∈ lw_tbl := t_in3 (List.mem_of_getElem? (i := 124) rfl)
theorem wd465 : Cond.declares ⟨"java/lang/Exception", "<init>", "(Ljava/lang/String;)V"⟩ ∈ lw_tbl := t_in3 (List.mem_of_getElem? (i := 125) rfl)
theorem wd466 : Cond.declares ⟨"java/lang/Throwable", "<init>", "()V"⟩ ∈ lw_tbl := t_in3 (List.mem_of_getElem? (i := 126) rfl)
theorem wd467 : Cond.declares ⟨"java/lang/Throwable", "<init>", "(Ljava/lang/String;)V"⟩ ∈ lw_tbl := t_in3 (List.mem_of_getElem? (i := 127) rfl)
theorem wd468 : Cond.selects "java/lang/IndexOutOfBoundsException" ⟨"java/lang/Throwable", "fillInStackTrace", "(I)Ljava/lang/Throwable;"⟩ ⟨"java/lang/Throwable", "fillInStackTrace", "(I)Ljava/lang/Throwable;"⟩ ∈ bG := bm (t_in3 (List.mem_of_getElem? (i := 128) rfl)) rfl
theorem wd469 : Cond.selects "java/lang/IndexOutOfBoundsException" ⟨"java/lang/Throwable", "fillInStackTrace", "()Ljava/lang/Throwable;"⟩ ⟨"java/lang/Throwable", "fillInStackTrace", "()Ljava/lang/Throwable;"⟩ ∈ bG := bm (t_in3 (List.mem_of_getElem? (i := 129) rfl)) rfl
theorem wd470 : Cond.fieldLink "java/lang/Throwable" 198 "java/lang/Throwable" "backtrace" "Ljava/lang/Object;" ∈ bG := bm (t_in3 (List.mem_of_getElem? (i := 140) rfl)) rfl
theorem wd471 : Cond.instanceMethod ⟨"java/lang/Throwable", "<init>", "()V"⟩ ∈ bG := bm (t_in3 (List.mem_of_getElem? (i := 142) rfl)) rfl
theorem wd472 : Cond.code ⟨"java/lang/Throwable", "<init>", "()V"⟩ prog_26_method_1_code 1 none ∈ bG := bm (t_in3 (List.mem_of_getElem? (i := 143) rfl)) rfl
theorem wd473 : Cond.methodLink "java/lang/Throwable" 1 ⟨"java/lang/Object", "<init>", "()V"⟩ ∈ bG := bm (t_in3 (List.mem_of_getElem? (i := 144) rfl)) rfl
theorem wd474 : Cond.fieldLink "java/lang/Throwable" 13 "java/lang/Throwable" "UNASSIGNED_STACK" "[Ljava/lang/StackTraceElement;" ∈ bG := bm (t_in3 (List.mem_of_getElem? (i := 145) rfl)) rfl
theorem wd475 : Cond.laysStatic "java/lang/Throwable" "UNASSIGNED_STACK" "[Ljava/lang/StackTraceElement;" ∈ lw_tbl := t_in3 (List.mem_of_getElem? (i := 146) rfl)
theorem wd476 : Cond.fieldLink "java/lang/Throwable" 20 "java/lang/Throwable" "SUPPRESSED_SENTINEL" "Ljava/util/List;" ∈ bG := bm (t_in3 (List.mem_of_getElem? (i := 147) rfl)) rfl
theorem wd477 : Cond.laysStatic "java/lang/Throwable" "SUPPRESSED_SENTINEL" "Ljava/util/List;" ∈ lw_tbl := t_in3 (List.mem_of_getElem? (i := 148) rfl)
theorem wd478 : Cond.methodLink "java/lang/Throwable" 27 ⟨"java/lang/Throwable", "fillInStackTrace", "()Ljava/lang/Throwable;"⟩ ∈ bG := bm (t_in3 (List.mem_of_getElem? (i := 149) rfl)) rfl
theorem wd479 : Cond.instanceMethod ⟨"java/lang/Throwable", "fillInStackTrace", "()Ljava/lang/Throwable;"⟩ ∈ bG := bm (t_in3 (List.mem_of_getElem? (i := 150) rfl)) rfl
theorem wd480 : Cond.sameMethod "java/lang/Throwable" "java/lang/Throwable" "fillInStackTrace" "()Ljava/lang/Throwable;" ∈ bG := bm (t_in3 (List.mem_of_getElem? (i := 151) rfl)) rfl
theorem wd481 : Cond.selects "java/lang/IllegalArgumentException" ⟨"java/lang/Throwable", "fillInStackTrace", "()Ljava/lang/Throwable;"⟩ ⟨"java/lang/Throwable", "fillInStackTrace", "()Ljava/lang/Throwable;"⟩ ∈ bG := bm (t_in3 (List.mem_of_getElem? (i := 152) rfl)) rfl
theorem wd482 : Cond.selects "java/lang/IllegalStateException" ⟨"java/lang/Throwable", "fillInStackTrace", "()Ljava/lang/Throwable;"⟩ ⟨"java/lang/Throwable", "fillInStackTrace", "()Ljava/lang/Throwable;"⟩ ∈ bG := bm (t_in3 (List.mem_of_getElem? (i := 153) rfl)) rfl
theorem wd483 : Cond.methodLink "java/lang/Throwable" 202 ⟨"java/lang/Throwable", "fillInStackTrace", "(I)Ljava/lang/Throwable;"⟩ ∈ bG := bm (t_in3 (List.mem_of_getElem? (i := 155) rfl)) rfl
theorem wd484 : Cond.instanceMethod ⟨"java/lang/Throwable", "fillInStackTrace", "(I)Ljava/lang/Throwable;"⟩ ∈ bG := bm (t_in3 (List.mem_of_getElem? (i := 157) rfl)) rfl
theorem wd485 : Cond.instantiable "java/lang/Throwable" 6 ∈ bG := bm (t_in3 (List.mem_of_getElem? (i := 158) rfl)) rfl
theorem wd486 : Cond.stringRef RX11 128 "there is no such count" ∈ lw_tbl := t_in3 (List.mem_of_getElem? (i := 160) rfl)
theorem wd487 : Cond.methodLink RX11 130 ⟨"java/lang/IndexOutOfBoundsException", "<init>", "(Ljava/lang/String;)V"⟩ ∈ bG := bm (t_in3 (List.mem_of_getElem? (i := 161) rfl)) rfl
theorem wd488 : Cond.instanceMethod ⟨"java/lang/IndexOutOfBoundsException", "<init>", "(Ljava/lang/String;)V"⟩ ∈ bG := bm (t_in3 (List.mem_of_getElem? (i := 162) rfl)) rfl
theorem wd489 : Cond.code ⟨"java/lang/IndexOutOfBoundsException", "<init>", "(Ljava/lang/String;)V"⟩ prog_19_method_2_code 2 none ∈ bG := bm (t_in3 (List.mem_of_getElem? (i := 163) rfl)) rfl
theorem wd490 : Cond.methodLink "java/lang/IndexOutOfBoundsException" 7 ⟨"java/lang/RuntimeException", "<init>", "(Ljava/lang/String;)V"⟩ ∈ bG := bm (t_in3 (List.mem_of_getElem? (i := 164) rfl)) rfl
theorem wd491 : Cond.instanceMethod ⟨"java/lang/RuntimeException", "<init>", "(Ljava/lang/String;)V"⟩ ∈ bG := bm (t_in3 (List.mem_of_getElem? (i := 165) rfl)) rfl
theorem wd492 : Cond.code ⟨"java/lang/RuntimeException", "<init>", "(Ljava/lang/String;)V"⟩ prog_22_method_2_code 2 none ∈ bG := bm (t_in3 (List.mem_of_getElem? (i := 166) rfl)) rfl
theorem wd493 : Cond.methodLink "java/lang/RuntimeException" 7 ⟨"java/lang/Exception", "<init>", "(Ljava/lang/String;)V"⟩ ∈ bG := bm (t_in3 (List.mem_of_getElem? (i := 167) rfl)) rfl
theorem wd494 : Cond.instanceMethod ⟨"java/lang/Exception", "<init>", "(Ljava/lang/String;)V"⟩ ∈ bG := bm (t_in3 (List.mem_of_getElem? (i := 168) rfl)) rfl
theorem wd495 : Cond.code ⟨"java/lang/Exception", "<init>", "(Ljava/lang/String;)V"⟩ prog_16_method_2_code 2 none ∈ bG := bm (t_in3 (List.mem_of_getElem? (i := 169) rfl)) rfl
theorem wd496 : Cond.methodLink "java/lang/Exception" 7 ⟨"java/lang/Throwable", "<init>", "(Ljava/lang/String;)V"⟩ ∈ bG := bm (t_in3 (List.mem_of_getElem? (i := 170) rfl)) rfl
theorem wd497 : Cond.instanceMethod ⟨"java/lang/Throwable", "<init>", "(Ljava/lang/String;)V"⟩ ∈ bG := bm (t_in3 (List.mem_of_getElem? (i := 171) rfl)) rfl
theorem wd498 : Cond.code ⟨"java/lang/Throwable", "<init>", "(Ljava/lang/String;)V"⟩ prog_26_method_2_code 2 none ∈ bG := bm (t_in3 (List.mem_of_getElem? (i := 172) rfl)) rfl
theorem wd499 : Cond.fieldLink "java/lang/Throwable" 31 "java/lang/Throwable" "detailMessage" "Ljava/lang/String;" ∈ bG := bm (t_in3 (List.mem_of_getElem? (i := 174) rfl)) rfl
theorem wd500 : Cond.fieldLink "java/lang/Throwable" 7 "java/lang/Throwable" "cause" "Ljava/lang/Throwable;" ∈ bG := bm (t_in3 (List.mem_of_getElem? (i := 175) rfl)) rfl
theorem wd501 : Cond.fieldLink "java/lang/Throwable" 17 "java/lang/Throwable" "stackTrace" "[Ljava/lang/StackTraceElement;" ∈ bG := bm (t_in3 (List.mem_of_getElem? (i := 176) rfl)) rfl
theorem wd502 : Cond.fieldLink "java/lang/Throwable" 24 "java/lang/Throwable" "suppressedExceptions" "Ljava/util/List;" ∈ bG := bm (t_in3 (List.mem_of_getElem? (i := 177) rfl)) rfl
theorem wd503 : Cond.methodLink RL 50 yX11_rule ∈ bG := bm (t_in3 (List.mem_of_getElem? (i := 186) rfl)) rfl
theorem wd504 : Cond.instanceMethod yX11_rule ∈ bG := bm (t_in3 (List.mem_of_getElem? (i := 187) rfl)) rfl
theorem wd505 : Cond.selects RX11 yX11_rule yX11_rule ∈ bG := bm (t_in3 (List.mem_of_getElem? (i := 188) rfl)) rfl
theorem wd506 : Cond.code yX11_rule prog_1_method_7_code 4 (some .int) ∈ bG := bm (t_in3 (List.mem_of_getElem? (i := 189) rfl)) rfl
theorem wd507 : Cond.methodLink RX11 131 yX11_requireRule ∈ bG := bm (t_in3 (List.mem_of_getElem? (i := 190) rfl)) rfl
theorem wd508 : Cond.instanceMethod yX11_requireRule ∈ bG := bm (t_in3 (List.mem_of_getElem? (i := 192) rfl)) rfl
theorem wd509 : Cond.code yX11_requireRule prog_1_method_28_code 2 none ∈ bG := bm (t_in3 (List.mem_of_getElem? (i := 193) rfl)) rfl
theorem wd510 : Cond.stringRef RX11 295 "there is no such rule" ∈ lw_tbl := t_in3 (List.mem_of_getElem? (i := 194) rfl)
theorem wd511 : Cond.methodLink RX11 156 yX7_cellOrNone ∈ bG := bm (t_in3 (List.mem_of_getElem? (i := 195) rfl)) rfl
theorem wd512 : Cond.instanceMethod yX7_cellOrNone ∈ bG := bm (t_in3 (List.mem_of_getElem? (i := 196) rfl)) rfl
theorem wd513 : Cond.selects RX7 yX7_cellOrNone yX7_cellOrNone ∈ bG := bm (t_in3 (List.mem_of_getElem? (i := 197) rfl)) rfl
theorem wd514 : Cond.code yX7_cellOrNone prog_9_method_6_code 2 (some .int) ∈ bG := bm (t_in3 (List.mem_of_getElem? (i := 198) rfl)) rfl
theorem wd515 : Cond.methodLink RX11 164 yX7_isBroken ∈ bG := bm (t_in3 (List.mem_of_getElem? (i := 199) rfl)) rfl
theorem wd516 : Cond.stringRef RX11 168 "nothing such is told of a rule" ∈ lw_tbl := t_in3 (List.mem_of_getElem? (i := 200) rfl)
theorem wd517 : Cond.methodLink RL 131 yX11_drop ∈ bG := bm (t_in3 (List.mem_of_getElem? (i := 201) rfl)) rfl
theorem wd518 : Cond.instanceMethod yX11_drop ∈ bG := bm (t_in3 (List.mem_of_getElem? (i := 202) rfl)) rfl
theorem wd519 : Cond.selects RX11 yX11_drop yX11_drop ∈ bG := bm (t_in3 (List.mem_of_getElem? (i := 203) rfl)) rfl
theorem wd520 : Cond.code yX11_drop prog_1_method_8_code 2 (some .int) ∈ bG := bm (t_in3 (List.mem_of_getElem? (i := 204) rfl)) rfl
theorem wd521 : Cond.methodLink RX11 170 yX4_removeRule ∈ bG := bm (t_in3 (List.mem_of_getElem? (i := 205) rfl)) rfl
theorem wd522 : Cond.instanceMethod yX4_removeRule ∈ bG := bm (t_in3 (List.mem_of_getElem? (i := 206) rfl)) rfl
theorem wd523 : Cond.selects RX4 yX4_removeRule yX4_removeRule ∈ bG := bm (t_in3 (List.mem_of_getElem? (i := 207) rfl)) rfl
theorem wd524 : Cond.code yX4_removeRule prog_6_method_10_code 4 none ∈ bG := bm (t_in3 (List.mem_of_getElem? (i := 208) rfl)) rfl
theorem wd525 : Cond.methodLink RL 134 yX11_write ∈ bG := bm (t_in3 (List.mem_of_getElem? (i := 209) rfl)) rfl
theorem wd526 : Cond.instanceMethod yX11_write ∈ bG := bm (t_in3 (List.mem_of_getElem? (i := 210) rfl)) rfl
theorem wd527 : Cond.selects RX11 yX11_write yX11_write ∈ bG := bm (t_in3 (List.mem_of_getElem? (i := 211) rfl)) rfl
theorem wd528 : Cond.code yX11_write prog_1_method_9_code 1 (some .int) ∈ bG := bm (t_in3 (List.mem_of_getElem? (i := 212) rfl)) rfl
theorem wd529 : Cond.methodLink RX11 173 yX11_requirePuzzle ∈ bG := bm (t_in3 (List.mem_of_getElem? (i := 213) rfl)) rfl
theorem wd530 : Cond.instanceMethod yX11_requirePuzzle ∈ bG := bm (t_in3 (List.mem_of_getElem? (i := 215) rfl)) rfl
theorem wd531 : Cond.code yX11_requirePuzzle prog_1_method_27_code 1 none ∈ bG := bm (t_in3 (List.mem_of_getElem? (i := 216) rfl)) rfl
theorem wd532 : Cond.methodLink RX11 289 yX4_isThere ∈ bG := bm (t_in3 (List.mem_of_getElem? (i := 217) rfl)) rfl
theorem wd533 : Cond.instanceMethod yX4_isThere ∈ bG := bm (t_in3 (List.mem_of_getElem? (i := 218) rfl)) rfl
theorem wd534 : Cond.selects RX4 yX4_isThere yX4_isThere ∈ bG := bm (t_in3 (List.mem_of_getElem? (i := 219) rfl)) rfl
theorem wd535 : Cond.code yX4_isThere prog_6_method_3_code 1 (some .boolean) ∈ bG := bm (t_in3 (List.mem_of_getElem? (i := 220) rfl)) rfl
theorem wd536 : Cond.classLink RX11 68 "java/lang/IllegalStateException" ∈ bG := bm (t_in3 (List.mem_of_getElem? (i := 221) rfl)) rfl
theorem wd537 : Cond.instantiable "java/lang/IllegalStateException" 6 ∈ bG := bm (t_in3 (List.mem_of_getElem? (i := 222) rfl)) rfl
theorem wd538 : Cond.castable "java/lang/IllegalStateException" "java/lang/IllegalStateException" ∈ lw_tbl := t_in3 (List.mem_of_getElem? (i := 223) rfl)
theorem wd539 : Cond.selects "java/lang/IllegalStateException" ⟨"java/lang/Throwable", "fillInStackTrace", "(I)Ljava/lang/Throwable;"⟩ ⟨"java/lang/Throwable", "fillInStackTrace", "(I)Ljava/lang/Throwable;"⟩ ∈ bG := bm (t_in3 (List.mem_of_getElem? (i := 224) rfl)) rfl
theorem wd540 : Cond.stringRef RX11 293 "there is no puzzle" ∈ lw_tbl := t_in3 (List.mem_of_getElem? (i := 230) rfl)
theorem wd541 : Cond.methodLink RX11 72 ⟨"java/lang/IllegalStateException", "<init>", "(Ljava/lang/String;)V"⟩ ∈ bG := bm (t_in3 (List.mem_of_getElem? (i := 231) rfl)) rfl
theorem wd542 : Cond.instanceMethod ⟨"java/lang/IllegalStateException", "<init>", "(Ljava/lang/String;)V"⟩ ∈ bG := bm (t_in3 (List.mem_of_getElem? (i := 232) rfl)) rfl
theorem wd543 : Cond.code ⟨"java/lang/IllegalStateException", "<init>", "(Ljava/lang/String;)V"⟩ prog_18_method_2_code 2 none ∈ bG := bm (t_in3 (List.mem_of_getElem? (i := 233) rfl)) rfl
theorem wd544 : Cond.methodLink "java/lang/IllegalStateException" 7 ⟨"java/lang/RuntimeException", "<init>", "(Ljava/lang/String;)V"⟩ ∈ bG := bm (t_in3 (List.mem_of_getElem? (i := 234) rfl)) rfl
theorem wd545 : Cond.methodLink RX11 176 yX3_show ∈ bG := bm (t_in3 (List.mem_of_getElem? (i := 237) rfl)) rfl
theorem wd546 : Cond.instanceMethod yX3_show ∈ bG := bm (t_in3 (List.mem_of_getElem? (i := 238) rfl)) rfl
theorem wd547 : Cond.selects RX3 yX3_show yX3_show ∈ bG := bm (t_in3 (List.mem_of_getElem? (i := 239) rfl)) rfl
theorem wd548 : Cond.code yX3_show prog_5_method_2_code 3 none ∈ bG := bm (t_in4 (List.mem_of_getElem? (i := 0) rfl)) rfl
theorem wd549 : Cond.stringRef RX3 19 "grid" ∈ lw_tbl := t_in4 (List.mem_of_getElem? (i := 1) rfl)
theorem wd550 : Cond.methodLink RX3 21 yX3_addWord ∈ bG := bm (t_in4 (List.mem_of_getElem? (i := 2) rfl)) rfl
theorem wd551 : Cond.instanceMethod yX3_addWord ∈ bG := bm (t_in4 (List.mem_of_getElem? (i := 4) rfl)) rfl
theorem wd552 : Cond.code yX3_addWord prog_5_method_4_code 3 none ∈ bG := bm (t_in4 (List.mem_of_getElem? (i := 5) rfl)) rfl
theorem wd553 : Cond.methodLink RX3 88 yJ0_length_8abf5 ∈ bG := bm (t_in4 (List.mem_of_getElem? (i := 6) rfl)) rfl
theorem wd554 : Cond.methodLink RX3 93 yJ0_charAt_5068e ∈ bG := bm (t_in4 (List.mem_of_getElem? (i := 7) rfl)) rfl
theorem wd555 : Cond.methodLink RX3 40 yX3_add ∈ bG := bm (t_in4 (List.mem_of_getElem? (i := 8) rfl)) rfl
theorem wd556 : Cond.instanceMethod yX3_add ∈ bG := bm (t_in4 (List.mem_of_getElem? (i := 10) rfl)) rfl
theorem wd557 : Cond.code yX3_add prog_5_method_7_code 2 none ∈ bG := bm (t_in4 (List.mem_of_getElem? (i := 11) rfl)) rfl
theorem wd558 : Cond.methodLink RX3 30 yX3_addNumber ∈ bG := bm (t_in4 (List.mem_of_getElem? (i := 12) rfl)) rfl
theorem wd559 : Cond.instanceMethod yX3_addNumber ∈ bG := bm (t_in4 (List.mem_of_getElem? (i := 14) rfl)) rfl
theorem wd560 : Cond.code yX3_addNumber prog_5_method_5_code 3 none ∈ bG := bm (t_in4 (List.mem_of_getElem? (i := 15) rfl)) rfl
theorem wd561 : Cond.methodLink RX3 50 yX3_addRule ∈ bG := bm (t_in4 (List.mem_of_getElem? (i := 16) rfl)) rfl
theorem wd562 : Cond.instanceMethod yX3_addRule ∈ bG := bm (t_in4 (List.mem_of_getElem? (i := 18) rfl)) rfl
theorem wd563 : Cond.code yX3_addRule prog_5_method_3_code 4 none ∈ bG := bm (t_in4 (List.mem_of_getElem? (i := 19) rfl)) rfl
theorem wd564 : Cond.methodLink RX3 81 yX3_addCell ∈ bG := bm (t_in4 (List.mem_of_getElem? (i := 20) rfl)) rfl
theorem wd565 : Cond.instanceMethod yX3_addCell ∈ bG := bm (t_in4 (List.mem_of_getElem? (i := 22) rfl)) rfl
theorem wd566 : Cond.code yX3_addCell prog_5_method_6_code 3 none ∈ bG := bm (t_in4 (List.mem_of_getElem? (i := 23) rfl)) rfl
theorem wd567 : Cond.fieldLink RX3 85 "RiddleMill$Kind" "IS" "LRiddleMill$Kind;" ∈ bG := bm (t_in4 (List.mem_of_getElem? (i := 24) rfl)) rfl
theorem wd568 : Cond.methodLink RL 137 yX11_byteAt ∈ bG := bm (t_in4 (List.mem_of_getElem? (i := 25) rfl)) rfl
theorem wd569 : Cond.instanceMethod yX11_byteAt ∈ bG := bm (t_in4 (List.mem_of_getElem? (i := 26) rfl)) rfl
theorem wd570 : Cond.selects RX11 yX11_byteAt yX11_byteAt ∈ bG := bm (t_in4 (List.mem_of_getElem? (i := 27) rfl)) rfl
theorem wd571 : Cond.code yX11_byteAt prog_1_method_10_code 2 (some .int) ∈ bG := bm (t_in4 (List.mem_of_getElem? (i := 28) rfl)) rfl
theorem wd572 : Cond.stringRef RX11 180 "there is no such place on the paper" ∈ lw_tbl := t_in4 (List.mem_of_getElem? (i := 29) rfl)
theorem wd573 : Cond.methodLink RL 78 yX11_put ∈ bG := bm (t_in4 (List.mem_of_getElem? (i := 30) rfl)) rfl
theorem wd574 : Cond.instanceMethod yX11_put ∈ bG := bm (t_in4 (List.mem_of_getElem? (i := 31) rfl)) rfl
theorem wd575 : Cond.selects RX11 yX11_put yX11_put ∈ bG := bm (t_in4 (List.mem_of_getElem? (i := 32) rfl)) rfl
theorem wd576 : Cond.code yX11_put prog_1_method_11_code 4 (some .int) ∈ bG := bm (t_in4 (List.mem_of_getElem? (i := 33) rfl)) rfl
theorem wd577 : Cond.methodLink RX11 185 yX11_requireCell ∈ bG := bm (t_in4 (List.mem_of_getElem? (i := 34) rfl)) rfl
theorem wd578 : Cond.instanceMethod yX11_requireCell ∈ bG := bm (t_in4 (List.mem_of_getElem? (i := 36) rfl)) rfl
theorem wd579 : Cond.code yX11_requireCell prog_1_method_29_code 2 none ∈ bG := bm (t_in4 (List.mem_of_getElem? (i := 37) rfl)) rfl
theorem wd580 : Cond.methodLink RX11 272 yX4_cellCount ∈ bG := bm (t_in4 (List.mem_of_getElem? (i := 38) rfl)) rfl
theorem wd581 : Cond.stringRef RX11 297 "there is no such cell" ∈ lw_tbl := t_in4 (List.mem_of_getElem? (i := 39) rfl)
theorem wd582 : Cond.classLink RX11 79 "java/lang/IllegalArgumentException" ∈ bG := bm (t_in4 (List.mem_of_getElem? (i := 40) rfl)) rfl
theorem wd583 : Cond.instantiable "java/lang/IllegalArgumentException" 6 ∈ bG := bm (t_in4 (List.mem_of_getElem? (i := 41) rfl)) rfl
theorem wd584 : Cond.castable "java/lang/IllegalArgumentException" "java/lang/IllegalArgumentException" ∈ lw_tbl := t_in4 (List.mem_of_getElem? (i := 42) rfl)
theorem wd585 : Cond.selects "java/lang/IllegalArgumentException" ⟨"java/lang/Throwable", "fillInStackTrace", "(I)Ljava/lang/Throwable;"⟩ ⟨"java/lang/Throwable", "fillInStackTrace", "(I)Ljava/lang/Throwable;"⟩ ∈ bG := bm (t_in4 (List.mem_of_getElem? (i := 43) rfl)) rfl
theorem wd586 : Cond.stringRef RX11 188 "there is no such value" ∈ lw_tbl := t_in4 (List.mem_of_getElem? (i := 49) rfl)
theorem wd587 : Cond.methodLink RX11 83 ⟨"java/lang/IllegalArgumentException", "<init>", "(Ljava/lang/String;)V"⟩ ∈ bG := bm (t_in4 (List.mem_of_getElem? (i := 50) rfl)) rfl
theorem wd588 : Cond.instanceMethod ⟨"java/lang/IllegalArgumentException", "<init>", "(Ljava/lang/String;)V"⟩ ∈ bG := bm (t_in4 (List.mem_of_getElem? (i := 51) rfl)) rfl
theorem wd589 : Cond.code ⟨"java/lang/IllegalArgumentException", "<init>", "(Ljava/lang/String;)V"⟩ prog_17_method_2_code 2 none ∈ bG := bm (t_in4 (List.mem_of_getElem? (i := 52) rfl)) rfl
theorem wd590 : Cond.methodLink "java/lang/IllegalArgumentException" 7 ⟨"java/lang/RuntimeException", "<init>", "(Ljava/lang/String;)V"⟩ ∈ bG := bm (t_in4 (List.mem_of_getElem? (i := 53) rfl)) rfl
theorem wd591 : Cond.methodLink RL 86 yX11_value ∈ bG := bm (t_in4 (List.mem_of_getElem? (i := 56) rfl)) rfl
theorem wd592 : Cond.instanceMethod yX11_value ∈ bG := bm (t_in4 (List.mem_of_getElem? (i := 57) rfl)) rfl
theorem wd593 : Cond.selects RX11 yX11_value yX11_value ∈ bG := bm (t_in4 (List.mem_of_getElem? (i := 58) rfl)) rfl
theorem wd594 : Cond.code yX11_value prog_1_method_12_code 2 (some .int) ∈ bG := bm (t_in4 (List.mem_of_getElem? (i := 59) rfl)) rfl
theorem wd595 : Cond.methodLink RL 80 yX11_search ∈ bG := bm (t_in4 (List.mem_of_getElem? (i := 60) rfl)) rfl
theorem wd596 : Cond.instanceMethod yX11_search ∈ bG := bm (t_in4 (List.mem_of_getElem? (i := 61) rfl)) rfl
theorem wd597 : Cond.selects RX11 yX11_search yX11_search ∈ bG := bm (t_in4 (List.mem_of_getElem? (i := 62) rfl)) rfl
theorem wd598 : Cond.code yX11_search prog_1_method_14_code 2 (some .int) ∈ bG := bm (t_in4 (List.mem_of_getElem? (i := 63) rfl)) rfl
theorem wd599 : Cond.stringRef RX11 193 "1 to 30 solutions can be looked for" ∈ lw_tbl := t_in4 (List.mem_of_getElem? (i := 64) rfl)
theorem wd600 : Cond.methodLink RX11 195 yX8_findInGrid ∈ bG := bm (t_in4 (List.mem_of_getElem? (i := 65) rfl)) rfl
theorem wd601 : Cond.instanceMethod yX8_findInGrid ∈ bG := bm (t_in4 (List.mem_of_getElem? (i := 66) rfl)) rfl
theorem wd602 : Cond.selects RX8 yX8_findInGrid yX8_findInGrid ∈ bG := bm (t_in4 (List.mem_of_getElem? (i := 67) rfl)) rfl
theorem wd603 : Cond.code yX8_findInGrid prog_10_method_2_code 4 (some .int) ∈ bG := bm (t_in4 (List.mem_of_getElem? (i := 68) rfl)) rfl
theorem wd604 : Cond.methodLink RX8 26 yX8_begin ∈ bG := bm (t_in4 (List.mem_of_getElem? (i := 69) rfl)) rfl
theorem wd605 : Cond.instanceMethod yX8_begin ∈ bG := bm (t_in4 (List.mem_of_getElem? (i := 71) rfl)) rfl
theorem wd606 : Cond.code yX8_begin prog_10_method_5_code 4 none ∈ bG := bm (t_in4 (List.mem_of_getElem? (i := 72) rfl)) rfl
theorem wd607 : Cond.methodLink RX8 30 yX4_cellCount ∈ bG := bm (t_in4 (List.mem_of_getElem? (i := 73) rfl)) rfl
theorem wd608 : Cond.methodLink RX8 39 yX8_endsFrom ∈ bG := bm (t_in4 (List.mem_of_getElem? (i := 74) rfl)) rfl
theorem wd609 : Cond.static yX8_endsFrom ∈ bG := bm (t_in4 (List.mem_of_getElem? (i := 75) rfl)) rfl
theorem wd610 : Cond.code yX8_endsFrom prog_10_method_6_code 5 (some .boolean) ∈ bG := bm (t_in4 (List.mem_of_getElem? (i := 76) rfl)) rfl
theorem wd611 : Cond.methodLink RX8 60 yX8_keep ∈ bG := bm (t_in4 (List.mem_of_getElem? (i := 77) rfl)) rfl
theorem wd612 : Cond.instanceMethod yX8_keep ∈ bG := bm (t_in4 (List.mem_of_getElem? (i := 79) rfl)) rfl
theorem wd613 : Cond.code yX8_keep prog_10_method_9_code 2 none ∈ bG := bm (t_in4 (List.mem_of_getElem? (i := 80) rfl)) rfl
theorem wd614 : Cond.methodLink RX8 66 yX8_giveUp ∈ bG := bm (t_in4 (List.mem_of_getElem? (i := 81) rfl)) rfl
theorem wd615 : Cond.instanceMethod yX8_giveUp ∈ bG := bm (t_in4 (List.mem_of_getElem? (i := 83) rfl)) rfl
theorem wd616 : Cond.code yX8_giveUp prog_10_method_8_code 1 none ∈ bG := bm (t_in4 (List.mem_of_getElem? (i := 84) rfl)) rfl
theorem wd617 : Cond.methodLink RX8 69 yX8_choice ∈ bG := bm (t_in4 (List.mem_of_getElem? (i := 85) rfl)) rfl
theorem wd618 : Cond.instanceMethod yX8_choice ∈ bG := bm (t_in4 (List.mem_of_getElem? (i := 87) rfl)) rfl
theorem wd619 : Cond.code yX8_choice prog_10_method_7_code 5 (some .int) ∈ bG := bm (t_in4 (List.mem_of_getElem? (i := 88) rfl)) rfl
theorem wd620 : Cond.methodLink RX8 73 yX4_isBrokenAt ∈ bG := bm (t_in4 (List.mem_of_getElem? (i := 89) rfl)) rfl
theorem wd621 : Cond.instanceMethod yX4_isBrokenAt ∈ bG := bm (t_in4 (List.mem_of_getElem? (i := 90) rfl)) rfl
theorem wd622 : Cond.selects RX4 yX4_isBrokenAt yX4_isBrokenAt ∈ bG := bm (t_in4 (List.mem_of_getElem? (i := 91) rfl)) rfl
theorem wd623 : Cond.code yX4_isBrokenAt prog_6_method_15_code 5 (some .boolean) ∈ bG := bm (t_in4 (List.mem_of_getElem? (i := 92) rfl)) rfl
theorem wd624 : Cond.methodLink RX4 80 yX7_hasCell ∈ bG := bm (t_in4 (List.mem_of_getElem? (i := 93) rfl)) rfl
theorem wd625 : Cond.methodLink RL 83 yX11_solution ∈ bG := bm (t_in4 (List.mem_of_getElem? (i := 94) rfl)) rfl
theorem wd626 : Cond.instanceMethod yX11_solution ∈ bG := bm (t_in4 (List.mem_of_getElem? (i := 95) rfl)) rfl
theorem wd627 : Cond.selects RX11 yX11_solution yX11_solution ∈ bG := bm (t_in4 (List.mem_of_getElem? (i := 96) rfl)) rfl
theorem wd628 : Cond.code yX11_solution prog_1_method_15_code 3 (some .int) ∈ bG := bm (t_in4 (List.mem_of_getElem? (i := 97) rfl)) rfl
theorem wd629 : Cond.stringRef RX11 199 "there is no such solution" ∈ lw_tbl := t_in4 (List.mem_of_getElem? (i := 98) rfl)
theorem wd630 : Cond.methodLink RL 100 yX11_isNeeded ∈ bG := bm (t_in4 (List.mem_of_getElem? (i := 99) rfl)) rfl
theorem wd631 : Cond.instanceMethod yX11_isNeeded ∈ bG := bm (t_in4 (List.mem_of_getElem? (i := 100) rfl)) rfl
theorem wd632 : Cond.selects RX11 yX11_isNeeded yX11_isNeeded ∈ bG := bm (t_in4 (List.mem_of_getElem? (i := 101) rfl)) rfl
theorem wd633 : Cond.code yX11_isNeeded prog_1_method_16_code 2 (some .boolean) ∈ bG := bm (t_in4 (List.mem_of_getElem? (i := 102) rfl)) rfl
theorem wd634 : Cond.methodLink RX11 205 yX8_findsJustOne ∈ bG := bm (t_in4 (List.mem_of_getElem? (i := 103) rfl)) rfl
theorem wd635 : Cond.instanceMethod yX8_findsJustOne ∈ bG := bm (t_in4 (List.mem_of_getElem? (i := 104) rfl)) rfl
theorem wd636 : Cond.selects RX8 yX8_findsJustOne yX8_findsJustOne ∈ bG := bm (t_in4 (List.mem_of_getElem? (i := 105) rfl)) rfl
theorem wd637 : Cond.code yX8_findsJustOne prog_10_method_3_code 3 (some .boolean) ∈ bG := bm (t_in4 (List.mem_of_getElem? (i := 106) rfl)) rfl
theorem wd638 : Cond.methodLink RL 112 yX11_look ∈ bG := bm (t_in4 (List.mem_of_getElem? (i := 107) rfl)) rfl
theorem wd639 : Cond.instanceMethod yX11_look ∈ bG := bm (t_in4 (List.mem_of_getElem? (i := 108) rfl)) rfl
theorem wd640 : Cond.selects RX11 yX11_look yX11_look ∈ bG := bm (t_in4 (List.mem_of_getElem? (i := 109) rfl)) rfl
theorem wd641 : Cond.code yX11_look prog_1_method_17_code 1 (some .int) ∈ bG := bm (t_in4 (List.mem_of_getElem? (i := 110) rfl)) rfl
theorem wd642 : Cond.methodLink RX11 212 yX6_countValues ∈ bG := bm (t_in4 (List.mem_of_getElem? (i := 111) rfl)) rfl
theorem wd643 : Cond.instanceMethod yX6_countValues ∈ bG := bm (t_in4 (List.mem_of_getElem? (i := 112) rfl)) rfl
theorem wd644 : Cond.selects RX6 yX6_countValues yX6_countValues ∈ bG := bm (t_in4 (List.mem_of_getElem? (i := 113) rfl)) rfl
theorem wd645 : Cond.code yX6_countValues prog_8_method_3_code 4 (some .int) ∈ bG := bm (t_in4 (List.mem_of_getElem? (i := 114) rfl)) rfl
theorem wd646 : Cond.methodLink RX6 37 yJ6_bitCount_0f7a4 ∈ bG := bm (t_in4 (List.mem_of_getElem? (i := 115) rfl)) rfl
theorem wd647 : Cond.static yJ6_bitCount_0f7a4 ∈ bG := bm (t_in4 (List.mem_of_getElem? (i := 116) rfl)) rfl
theorem wd648 : Cond.code yJ6_bitCount_0f7a4 prog_20_method_49_code 1 (some .int) ∈ bG := bm (t_in4 (List.mem_of_getElem? (i := 117) rfl)) rfl
theorem wd649 : Cond.constant "java/lang/Integer" 265 (1431655765) ∈ bG := bm (t_in4 (List.mem_of_getElem? (i := 118) rfl)) rfl
theorem wd650 : Cond.constant "java/lang/Integer" 266 (858993459) ∈ bG := bm (t_in4 (List.mem_of_getElem? (i := 119) rfl)) rfl
theorem wd651 : Cond.constant "java/lang/Integer" 267 (252645135) ∈ bG := bm (t_in4 (List.mem_of_getElem? (i := 120) rfl)) rfl
theorem wd652 : Cond.methodLink RL 118 yX11_possible ∈ bG := bm (t_in4 (List.mem_of_getElem? (i := 121) rfl)) rfl
theorem wd653 : Cond.instanceMethod yX11_possible ∈ bG := bm (t_in4 (List.mem_of_getElem? (i := 122) rfl)) rfl
theorem wd654 : Cond.selects RX11 yX11_possible yX11_possible ∈ bG := bm (t_in4 (List.mem_of_getElem? (i := 123) rfl)) rfl
theorem wd655 : Cond.code yX11_possible prog_1_method_18_code 2 (some .int) ∈ bG := bm (t_in4 (List.mem_of_getElem? (i := 124) rfl)) rfl
theorem wd656 : Cond.methodLink RL 97 yX11_hint ∈ bG := bm (t_in4 (List.mem_of_getElem? (i := 125) rfl)) rfl
theorem wd657 : Cond.instanceMethod yX11_hint ∈ bG := bm (t_in4 (List.mem_of_getElem? (i := 126) rfl)) rfl
theorem wd658 : Cond.selects RX11 yX11_hint yX11_hint ∈ bG := bm (t_in4 (List.mem_of_getElem? (i := 127) rfl)) rfl
theorem wd659 : Cond.code yX11_hint prog_1_method_19_code 2 (some .int) ∈ bG := bm (t_in4 (List.mem_of_getElem? (i := 128) rfl)) rfl
theorem wd660 : Cond.stringRef RX11 219 "nothing such is told of a deduction" ∈ lw_tbl := t_in4 (List.mem_of_getElem? (i := 129) rfl)
theorem wd661 : Cond.methodLink RX11 221 yX6_findFirst ∈ bG := bm (t_in4 (List.mem_of_getElem? (i := 130) rfl)) rfl
theorem wd662 : Cond.instanceMethod yX6_findFirst ∈ bG := bm (t_in4 (List.mem_of_getElem? (i := 131) rfl)) rfl
theorem wd663 : Cond.selects RX6 yX6_findFirst yX6_findFirst ∈ bG := bm (t_in4 (List.mem_of_getElem? (i := 132) rfl)) rfl
theorem wd664 : Cond.code yX6_findFirst prog_8_method_6_code 3 (some .boolean) ∈ bG := bm (t_in4 (List.mem_of_getElem? (i := 133) rfl)) rfl
theorem wd665 : Cond.methodLink RX6 54 yX6_findFirstBy ∈ bG := bm (t_in4 (List.mem_of_getElem? (i := 134) rfl)) rfl
theorem wd666 : Cond.instanceMethod yX6_findFirstBy ∈ bG := bm (t_in4 (List.mem_of_getElem? (i := 136) rfl)) rfl
theorem wd667 : Cond.code yX6_findFirstBy prog_8_method_7_code 5 (some .boolean) ∈ bG := bm (t_in4 (List.mem_of_getElem? (i := 137) rfl)) rfl
theorem wd668 : Cond.methodLink RX6 66 yX6_isRefuted ∈ bG := bm (t_in4 (List.mem_of_getElem? (i := 138) rfl)) rfl
theorem wd669 : Cond.instanceMethod yX6_isRefuted ∈ bG := bm (t_in4 (List.mem_of_getElem? (i := 140) rfl)) rfl
theorem wd670 : Cond.code yX6_isRefuted prog_8_method_12_code 6 (some .boolean) ∈ bG := bm (t_in4 (List.mem_of_getElem? (i := 141) rfl)) rfl
theorem wd671 : Cond.methodLink RX6 43 yX6_hasValue ∈ bG := bm (t_in4 (List.mem_of_getElem? (i := 142) rfl)) rfl
theorem wd672 : Cond.instanceMethod yX6_hasValue ∈ bG := bm (t_in4 (List.mem_of_getElem? (i := 144) rfl)) rfl
theorem wd673 : Cond.code yX6_hasValue prog_8_method_10_code 3 (some .boolean) ∈ bG := bm (t_in4 (List.mem_of_getElem? (i := 145) rfl)) rfl
theorem wd674 : Cond.methodLink RX6 100 yX6_holdsFrom ∈ bG := bm (t_in4 (List.mem_of_getElem? (i := 146) rfl)) rfl
theorem wd675 : Cond.static yX6_holdsFrom ∈ bG := bm (t_in4 (List.mem_of_getElem? (i := 147) rfl)) rfl
theorem wd676 : Cond.code yX6_holdsFrom prog_8_method_13_code 7 (some .boolean) ∈ bG := bm (t_in4 (List.mem_of_getElem? (i := 148) rfl)) rfl
theorem wd677 : Cond.methodLink RX6 104 yX7_isBroken ∈ bG := bm (t_in4 (List.mem_of_getElem? (i := 149) rfl)) rfl
theorem wd678 : Cond.methodLink RX6 79 yX6_gradeOf ∈ bG := bm (t_in4 (List.mem_of_getElem? (i := 150) rfl)) rfl
theorem wd679 : Cond.instanceMethod yX6_gradeOf ∈ bG := bm (t_in4 (List.mem_of_getElem? (i := 152) rfl)) rfl
theorem wd680 : Cond.code yX6_gradeOf prog_8_method_11_code 4 (some .int) ∈ bG := bm (t_in4 (List.mem_of_getElem? (i := 153) rfl)) rfl
theorem wd681 : Cond.methodLink RL 115 yX11_reason ∈ bG := bm (t_in4 (List.mem_of_getElem? (i := 154) rfl)) rfl
theorem wd682 : Cond.instanceMethod yX11_reason ∈ bG := bm (t_in4 (List.mem_of_getElem? (i := 155) rfl)) rfl
theorem wd683 : Cond.selects RX11 yX11_reason yX11_reason ∈ bG := bm (t_in4 (List.mem_of_getElem? (i := 156) rfl)) rfl
theorem wd684 : Cond.code yX11_reason prog_1_method_21_code 1 (some .int) ∈ bG := bm (t_in4 (List.mem_of_getElem? (i := 157) rfl)) rfl
theorem wd685 : Cond.methodLink RX11 241 yX6_doPasses ∈ bG := bm (t_in4 (List.mem_of_getElem? (i := 158) rfl)) rfl
theorem wd686 : Cond.instanceMethod yX6_doPasses ∈ bG := bm (t_in4 (List.mem_of_getElem? (i := 159) rfl)) rfl
theorem wd687 : Cond.selects RX6 yX6_doPasses yX6_doPasses ∈ bG := bm (t_in4 (List.mem_of_getElem? (i := 160) rfl)) rfl
theorem wd688 : Cond.code yX6_doPasses prog_8_method_8_code 6 (some .int) ∈ bG := bm (t_in4 (List.mem_of_getElem? (i := 161) rfl)) rfl
theorem wd689 : Cond.methodLink RX6 86 yX6_deduceBy ∈ bG := bm (t_in4 (List.mem_of_getElem? (i := 162) rfl)) rfl
theorem wd690 : Cond.instanceMethod yX6_deduceBy ∈ bG := bm (t_in4 (List.mem_of_getElem? (i := 164) rfl)) rfl
theorem wd691 : Cond.code yX6_deduceBy prog_8_method_9_code 6 (some .int) ∈ bG := bm (t_in4 (List.mem_of_getElem? (i := 165) rfl)) rfl
theorem wd692 : Cond.methodLink RX6 90 yJ9_max_7cf53 ∈ bG := bm (t_in4 (List.mem_of_getElem? (i := 166) rfl)) rfl
theorem wd693 : Cond.static yJ9_max_7cf53 ∈ bG := bm (t_in4 (List.mem_of_getElem? (i := 167) rfl)) rfl
theorem wd694 : Cond.code yJ9_max_7cf53 prog_21_method_65_code 2 (some .int) ∈ bG := bm (t_in4 (List.mem_of_getElem? (i := 168) rfl)) rfl
theorem wd695 : Cond.methodLink RX6 96 yX6_takeOut ∈ bG := bm (t_in4 (List.mem_of_getElem? (i := 169) rfl)) rfl
theorem wd696 : Cond.instanceMethod yX6_takeOut ∈ bG := bm (t_in4 (List.mem_of_getElem? (i := 170) rfl)) rfl
theorem wd697 : Cond.selects RX6 yX6_takeOut yX6_takeOut ∈ bG := bm (t_in4 (List.mem_of_getElem? (i := 171) rfl)) rfl
theorem wd698 : Cond.code yX6_takeOut prog_8_method_5_code 3 none ∈ bG := bm (t_in4 (List.mem_of_getElem? (i := 172) rfl)) rfl
theorem wd699 : Cond.methodLink RL 126 yX11_reasoned ∈ bG := bm (t_in4 (List.mem_of_getElem? (i := 173) rfl)) rfl
theorem wd700 : Cond.instanceMethod yX11_reasoned ∈ bG := bm (t_in4 (List.mem_of_getElem? (i := 174) rfl)) rfl
theorem wd701 : Cond.selects RX11 yX11_reasoned yX11_reasoned ∈ bG := bm (t_in4 (List.mem_of_getElem? (i := 175) rfl)) rfl
theorem wd702 : Cond.code yX11_reasoned prog_1_method_22_code 2 (some .int) ∈ bG := bm (t_in4 (List.mem_of_getElem? (i := 176) rfl)) rfl
theorem wd703 : Cond.methodLink RX11 250 yX6_countCellsWith ∈ bG := bm (t_in4 (List.mem_of_getElem? (i := 177) rfl)) rfl
theorem wd704 : Cond.instanceMethod yX6_countCellsWith ∈ bG := bm (t_in4 (List.mem_of_getElem? (i := 178) rfl)) rfl
theorem wd705 : Cond.selects RX6 yX6_countCellsWith yX6_countCellsWith ∈ bG := bm (t_in4 (List.mem_of_getElem? (i := 179) rfl)) rfl
theorem wd706 : Cond.code yX6_countCellsWith prog_8_method_4_code 5 (some .int) ∈ bG := bm (t_in4 (List.mem_of_getElem? (i := 180) rfl)) rfl
theorem wd707 : Cond.stringRef RX11 253 "nothing such is told of reasoning" ∈ lw_tbl := t_in4 (List.mem_of_getElem? (i := 181) rfl)
theorem wd708 : Cond.methodLink RL 141 yX11_make ∈ bG := bm (t_in4 (List.mem_of_getElem? (i := 182) rfl)) rfl
theorem wd709 : Cond.instanceMethod yX11_make ∈ bG := bm (t_in4 (List.mem_of_getElem? (i := 183) rfl)) rfl
theorem wd710 : Cond.selects RX11 yX11_make yX11_make ∈ bG := bm (t_in4 (List.mem_of_getElem? (i := 184) rfl)) rfl
theorem wd711 : Cond.code yX11_make prog_1_method_23_code 2 (some .int) ∈ bG := bm (t_in4 (List.mem_of_getElem? (i := 185) rfl)) rfl
theorem wd712 : Cond.constant RX11 255 (65535) ∈ bG := bm (t_in4 (List.mem_of_getElem? (i := 186) rfl)) rfl
theorem wd713 : Cond.stringRef RX11 256 "a seed is 0 to 65535" ∈ lw_tbl := t_in4 (List.mem_of_getElem? (i := 187) rfl)
theorem wd714 : Cond.methodLink RX11 258 yX2_giveAll ∈ bG := bm (t_in4 (List.mem_of_getElem? (i := 188) rfl)) rfl
theorem wd715 : Cond.instanceMethod yX2_giveAll ∈ bG := bm (t_in4 (List.mem_of_getElem? (i := 189) rfl)) rfl
theorem wd716 : Cond.selects RX2 yX2_giveAll yX2_giveAll ∈ bG := bm (t_in4 (List.mem_of_getElem? (i := 190) rfl)) rfl
theorem wd717 : Cond.code yX2_giveAll prog_4_method_2_code 6 (some .boolean) ∈ bG := bm (t_in4 (List.mem_of_getElem? (i := 191) rfl)) rfl
theorem wd718 : Cond.methodLink RX2 19 yX4_becomeCopyWithoutGivens ∈ bG := bm (t_in4 (List.mem_of_getElem? (i := 192) rfl)) rfl
theorem wd719 : Cond.instanceMethod yX4_becomeCopyWithoutGivens ∈ bG := bm (t_in4 (List.mem_of_getElem? (i := 193) rfl)) rfl
theorem wd720 : Cond.selects RX4 yX4_becomeCopyWithoutGivens yX4_becomeCopyWithoutGivens ∈ bG := bm (t_in4 (List.mem_of_getElem? (i := 194) rfl)) rfl
theorem wd721 : Cond.code yX4_becomeCopyWithoutGivens prog_6_method_16_code 4 none ∈ bG := bm (t_in4 (List.mem_of_getElem? (i := 195) rfl)) rfl
theorem wd722 : Cond.methodLink RX4 83 yX4_begin ∈ bG := bm (t_in4 (List.mem_of_getElem? (i := 196) rfl)) rfl
theorem wd723 : Cond.methodLink RX4 86 yX7_takeParts ∈ bG := bm (t_in4 (List.mem_of_getElem? (i := 197) rfl)) rfl
theorem wd724 : Cond.instanceMethod yX7_takeParts ∈ bG := bm (t_in4 (List.mem_of_getElem? (i := 198) rfl)) rfl
theorem wd725 : Cond.selects RX7 yX7_takeParts yX7_takeParts ∈ bG := bm (t_in4 (List.mem_of_getElem? (i := 199) rfl)) rfl
theorem wd726 : Cond.code yX7_takeParts prog_9_method_7_code 3 none ∈ bG := bm (t_in4 (List.mem_of_getElem? (i := 200) rfl)) rfl
theorem wd727 : Cond.methodLink RX7 44 yX7_addCell ∈ bG := bm (t_in4 (List.mem_of_getElem? (i := 201) rfl)) rfl
theorem wd728 : Cond.methodLink RX2 28 yX4_cellCount ∈ bG := bm (t_in4 (List.mem_of_getElem? (i := 202) rfl)) rfl
theorem wd729 : Cond.methodLink RX2 32 yX2_draw ∈ bG := bm (t_in4 (List.mem_of_getElem? (i := 203) rfl)) rfl
theorem wd730 : Cond.instanceMethod yX2_draw ∈ bG := bm (t_in4 (List.mem_of_getElem? (i := 205) rfl)) rfl
theorem wd731 : Cond.code yX2_draw prog_4_method_4_code 1 (some .int) ∈ bG := bm (t_in4 (List.mem_of_getElem? (i := 206) rfl)) rfl
theorem wd732 : Cond.constant RX2 61 (65536) ∈ bG := bm (t_in4 (List.mem_of_getElem? (i := 207) rfl)) rfl
theorem wd733 : Cond.methodLink RX2 35 yX8_findsOneFrom ∈ bG := bm (t_in4 (List.mem_of_getElem? (i := 208) rfl)) rfl
theorem wd734 : Cond.instanceMethod yX8_findsOneFrom ∈ bG := bm (t_in4 (List.mem_of_getElem? (i := 209) rfl)) rfl
theorem wd735 : Cond.selects RX8 yX8_findsOneFrom yX8_findsOneFrom ∈ bG := bm (t_in4 (List.mem_of_getElem? (i := 210) rfl)) rfl
theorem wd736 : Cond.code yX8_findsOneFrom prog_10_method_4_code 4 (some .boolean) ∈ bG := bm (t_in4 (List.mem_of_getElem? (i := 211) rfl)) rfl
theorem wd737 : Cond.methodLink RX2 45 yX4_addGiven ∈ bG := bm (t_in4 (List.mem_of_getElem? (i := 212) rfl)) rfl
theorem wd738 : Cond.instanceMethod yX4_addGiven ∈ bG := bm (t_in4 (List.mem_of_getElem? (i := 213) rfl)) rfl
theorem wd739 : Cond.selects RX4 yX4_addGiven yX4_addGiven ∈ bG := bm (t_in4 (List.mem_of_getElem? (i := 214) rfl)) rfl
theorem wd740 : Cond.code yX4_addGiven prog_6_method_9_code 4 none ∈ bG := bm (t_in4 (List.mem_of_getElem? (i := 215) rfl)) rfl
theorem wd741 : Cond.methodLink RX11 262 yX2_dropGivens ∈ bG := bm (t_in4 (List.mem_of_getElem? (i := 216) rfl)) rfl
theorem wd742 : Cond.instanceMethod yX2_dropGivens ∈ bG := bm (t_in4 (List.mem_of_getElem? (i := 217) rfl)) rfl
theorem wd743 : Cond.selects RX2 yX2_dropGivens yX2_dropGivens ∈ bG := bm (t_in4 (List.mem_of_getElem? (i := 218) rfl)) rfl
theorem wd744 : Cond.code yX2_dropGivens prog_4_method_3_code 7 none ∈ bG := bm (t_in4 (List.mem_of_getElem? (i := 219) rfl)) rfl
theorem wd745 : Cond.methodLink RX2 49 yX4_findGiven ∈ bG := bm (t_in4 (List.mem_of_getElem? (i := 220) rfl)) rfl
theorem wd746 : Cond.instanceMethod yX4_findGiven ∈ bG := bm (t_in4 (List.mem_of_getElem? (i := 221) rfl)) rfl
theorem wd747 : Cond.selects RX4 yX4_findGiven yX4_findGiven ∈ bG := bm (t_in4 (List.mem_of_getElem? (i := 222) rfl)) rfl
theorem wd748 : Cond.code yX4_findGiven prog_6_method_11_code 3 (some .int) ∈ bG := bm (t_in4 (List.mem_of_getElem? (i := 223) rfl)) rfl
theorem wd749 : Cond.methodLink RX4 65 yX7_isGivenOf ∈ bG := bm (t_in4 (List.mem_of_getElem? (i := 224) rfl)) rfl
theorem wd750 : Cond.instanceMethod yX7_isGivenOf ∈ bG := bm (t_in4 (List.mem_of_getElem? (i := 225) rfl)) rfl
theorem wd751 : Cond.selects RX7 yX7_isGivenOf yX7_isGivenOf ∈ bG := bm (t_in4 (List.mem_of_getElem? (i := 226) rfl)) rfl
theorem wd752 : Cond.code yX7_isGivenOf prog_9_method_5_code 2 (some .boolean) ∈ bG := bm (t_in4 (List.mem_of_getElem? (i := 227) rfl)) rfl
theorem wd753 : Cond.fieldLink RX7 37 "RiddleMill$Kind" "IS" "LRiddleMill$Kind;" ∈ bG := bm (t_in4 (List.mem_of_getElem? (i := 228) rfl)) rfl
theorem wd754 : Cond.methodLink RX7 40 yX7_hasCell ∈ bG := bm (t_in4 (List.mem_of_getElem? (i := 229) rfl)) rfl
theorem wd755 : Cond.methodLink RX2 53 yX8_findsJustOne ∈ bG := bm (t_in4 (List.mem_of_getElem? (i := 230) rfl)) rfl
theorem wd756 : Cond.methodLink RX2 57 yX4_removeRule ∈ bG := bm (t_in4 (List.mem_of_getElem? (i := 231) rfl)) rfl
theorem wd757 : Cond.methodLink RL 144 yX11_change ∈ bG := bm (t_in4 (List.mem_of_getElem? (i := 232) rfl)) rfl
theorem wd758 : Cond.instanceMethod yX11_change ∈ bG := bm (t_in4 (List.mem_of_getElem? (i := 233) rfl)) rfl
theorem wd759 : Cond.selects RX11 yX11_change yX11_change ∈ bG := bm (t_in4 (List.mem_of_getElem? (i := 234) rfl)) rfl
theorem wd760 : Cond.code yX11_change prog_1_method_24_code 2 (some .int) ∈ bG := bm (t_in4 (List.mem_of_getElem? (i := 235) rfl)) rfl
theorem wd761 : Cond.stringRef RX11 266 "there is no such change" ∈ lw_tbl := t_in4 (List.mem_of_getElem? (i := 236) rfl)
theorem wd762 : Cond.methodLink RX11 268 yX4_becomeMoved ∈ bG := bm (t_in4 (List.mem_of_getElem? (i := 237) rfl)) rfl
theorem wd763 : Cond.instanceMethod yX4_becomeMoved ∈ bG := bm (t_in4 (List.mem_of_getElem? (i := 238) rfl)) rfl
theorem wd764 : Cond.selects RX4 yX4_becomeMoved yX4_becomeMoved ∈ bG := bm (t_in4 (List.mem_of_getElem? (i := 239) rfl)) rfl
theorem wd765 : Cond.code yX4_becomeMoved prog_6_method_17_code 8 none ∈ bG := bm (t_in5 (List.mem_of_getElem? (i := 0) rfl)) rfl
theorem wd766 : Cond.methodLink RX4 90 yX7_moveCells ∈ bG := bm (t_in5 (List.mem_of_getElem? (i := 1) rfl)) rfl
theorem wd767 : Cond.instanceMethod yX7_moveCells ∈ bG := bm (t_in5 (List.mem_of_getElem? (i := 2) rfl)) rfl
theorem wd768 : Cond.selects RX7 yX7_moveCells yX7_moveCells ∈ bG := bm (t_in5 (List.mem_of_getElem? (i := 3) rfl)) rfl
theorem wd769 : Cond.code yX7_moveCells prog_9_method_8_code 3 none ∈ bG := bm (t_in5 (List.mem_of_getElem? (i := 4) rfl)) rfl
theorem wd770 : Cond.methodLink RL 104 yX11_doubt ∈ bG := bm (t_in5 (List.mem_of_getElem? (i := 5) rfl)) rfl
theorem wd771 : Cond.instanceMethod yX11_doubt ∈ bG := bm (t_in5 (List.mem_of_getElem? (i := 6) rfl)) rfl
theorem wd772 : Cond.selects RX11 yX11_doubt yX11_doubt ∈ bG := bm (t_in5 (List.mem_of_getElem? (i := 7) rfl)) rfl
theorem wd773 : Cond.code yX11_doubt prog_1_method_25_code 2 (some .double) ∈ bG := bm (t_in5 (List.mem_of_getElem? (i := 8) rfl)) rfl
theorem wd774 : Cond.methodLink RL 93 yX11_digest ∈ bG := bm (t_in5 (List.mem_of_getElem? (i := 9) rfl)) rfl
theorem wd775 : Cond.instanceMethod yX11_digest ∈ bG := bm (t_in5 (List.mem_of_getElem? (i := 10) rfl)) rfl
theorem wd776 : Cond.selects RX11 yX11_digest yX11_digest ∈ bG := bm (t_in5 (List.mem_of_getElem? (i := 11) rfl)) rfl
theorem wd777 : Cond.code yX11_digest prog_1_method_26_code 5 (some .long) ∈ bG := bm (t_in5 (List.mem_of_getElem? (i := 12) rfl)) rfl
theorem wd778 : Cond.constantLong RX11 275 (457) ∈ bG := bm (t_in5 (List.mem_of_getElem? (i := 13) rfl)) rfl
theorem wd779 : Cond.constantLong RX11 277 (31) ∈ bG := bm (t_in5 (List.mem_of_getElem? (i := 14) rfl)) rfl
theorem wd780 : Cond.methodLink RX11 279 yX11_count ∈ bG := bm (t_in5 (List.mem_of_getElem? (i := 15) rfl)) rfl
theorem wd781 : Cond.methodLink RX11 282 yX11_rule ∈ bG := bm (t_in5 (List.mem_of_getElem? (i := 16) rfl)) rfl
theorem wd782 : Cond.methodLink RX11 286 yX11_reasoned ∈ bG := bm (t_in5 (List.mem_of_getElem? (i := 17) rfl)) rfl
theorem wd783 : Cond.methodLink RL 69 yL_below ∈ bG := bm (t_in5 (List.mem_of_getElem? (i := 18) rfl)) rfl
theorem wd784 : Cond.static yL_below ∈ bG := bm (t_in5 (List.mem_of_getElem? (i := 19) rfl)) rfl
theorem wd785 : Cond.code yL_below method_2_code 2 (some .int) ∈ bG := bm (t_in5 (List.mem_of_getElem? (i := 20) rfl)) rfl
theorem wd786 : Cond.constant RL 7 (2147483647) ∈ bG := bm (t_in5 (List.mem_of_getElem? (i := 21) rfl)) rfl
theorem wd787 : Cond.methodLink RL 65 yL_cell ∈ bG := bm (t_in5 (List.mem_of_getElem? (i := 22) rfl)) rfl
theorem wd788 : Cond.static yL_cell ∈ bG := bm (t_in5 (List.mem_of_getElem? (i := 23) rfl)) rfl
theorem wd789 : Cond.code yL_cell method_3_code 2 (some .int) ∈ bG := bm (t_in5 (List.mem_of_getElem? (i := 24) rfl)) rfl
theorem wd790 : Cond.constant RL 8 (790386105) ∈ bG := bm (t_in5 (List.mem_of_getElem? (i := 25) rfl)) rfl
theorem wd791 : Cond.methodLink RL 21 yL_put ∈ bG := bm (t_in5 (List.mem_of_getElem? (i := 26) rfl)) rfl
theorem wd792 : Cond.static yL_put ∈ bG := bm (t_in5 (List.mem_of_getElem? (i := 27) rfl)) rfl
theorem wd793 : Cond.code yL_put method_4_code 3 none ∈ bG := bm (t_in5 (List.mem_of_getElem? (i := 28) rfl)) rfl
theorem wd794 : Cond.methodLink RL 9 yJ0_length_8abf5 ∈ bG := bm (t_in5 (List.mem_of_getElem? (i := 29) rfl)) rfl
theorem wd795 : Cond.methodLink RL 15 yJ0_charAt_5068e ∈ bG := bm (t_in5 (List.mem_of_getElem? (i := 30) rfl)) rfl
theorem wd796 : Cond.methodLink RL 43 yL_lay ∈ bG := bm (t_in5 (List.mem_of_getElem? (i := 31) rfl)) rfl
theorem wd797 : Cond.static yL_lay ∈ bG := bm (t_in5 (List.mem_of_getElem? (i := 32) rfl)) rfl
theorem wd798 : Cond.code yL_lay method_6_code 7 (some .boolean) ∈ bG := bm (t_in5 (List.mem_of_getElem? (i := 33) rfl)) rfl
theorem wd799 : Cond.methodLink RL 36 yX11_feed ∈ bG := bm (t_in5 (List.mem_of_getElem? (i := 34) rfl)) rfl
theorem wd800 : Cond.instanceMethod yX11_feed ∈ bG := bm (t_in5 (List.mem_of_getElem? (i := 35) rfl)) rfl
theorem wd801 : Cond.selects RX11 yX11_feed yX11_feed ∈ bG := bm (t_in5 (List.mem_of_getElem? (i := 36) rfl)) rfl
theorem wd802 : Cond.code yX11_feed prog_1_method_2_code 6 (some .int) ∈ bG := bm (t_in5 (List.mem_of_getElem? (i := 37) rfl)) rfl
theorem wd803 : Cond.stringRef RX11 70 "the tape would be too long" ∈ lw_tbl := t_in5 (List.mem_of_getElem? (i := 38) rfl)
theorem wd804 : Cond.methodLink RX11 75 yX9_appendFour ∈ bG := bm (t_in5 (List.mem_of_getElem? (i := 39) rfl)) rfl
theorem wd805 : Cond.instanceMethod yX9_appendFour ∈ bG := bm (t_in5 (List.mem_of_getElem? (i := 40) rfl)) rfl
theorem wd806 : Cond.selects RX9 yX9_appendFour yX9_appendFour ∈ bG := bm (t_in5 (List.mem_of_getElem? (i := 41) rfl)) rfl
theorem wd807 : Cond.code yX9_appendFour prog_11_method_2_code 3 none ∈ bG := bm (t_in5 (List.mem_of_getElem? (i := 42) rfl)) rfl
theorem wd808 : Cond.methodLink RL 40 yX11_trim ∈ bG := bm (t_in5 (List.mem_of_getElem? (i := 43) rfl)) rfl
theorem wd809 : Cond.instanceMethod yX11_trim ∈ bG := bm (t_in5 (List.mem_of_getElem? (i := 44) rfl)) rfl
theorem wd810 : Cond.selects RX11 yX11_trim yX11_trim ∈ bG := bm (t_in5 (List.mem_of_getElem? (i := 45) rfl)) rfl
theorem wd811 : Cond.code yX11_trim prog_1_method_3_code 2 (some .int) ∈ bG := bm (t_in5 (List.mem_of_getElem? (i := 46) rfl)) rfl
theorem wd812 : Cond.stringRef RX11 81 "the tape is shorter" ∈ lw_tbl := t_in5 (List.mem_of_getElem? (i := 47) rfl)
theorem wd813 : Cond.methodLink RL 89 yL_holds ∈ bG := bm (t_in5 (List.mem_of_getElem? (i := 48) rfl)) rfl
theorem wd814 : Cond.static yL_holds ∈ bG := bm (t_in5 (List.mem_of_getElem? (i := 49) rfl)) rfl
theorem wd815 : Cond.code yL_holds method_8_code 21 (some .boolean) ∈ bG := bm (t_in5 (List.mem_of_getElem? (i := 50) rfl)) rfl
theorem wd816 : Cond.methodLink RL 54 yJ9_max_7cf53 ∈ bG := bm (t_in5 (List.mem_of_getElem? (i := 51) rfl)) rfl
theorem wd817 : Cond.methodLink RL 59 yJ9_abs_0f7a4 ∈ bG := bm (t_in5 (List.mem_of_getElem? (i := 52) rfl)) rfl
theorem wd818 : Cond.static yJ9_abs_0f7a4 ∈ bG := bm (t_in5 (List.mem_of_getElem? (i := 53) rfl)) rfl
theorem wd819 : Cond.code yJ9_abs_0f7a4 prog_21_method_59_code 1 (some .int) ∈ bG := bm (t_in5 (List.mem_of_getElem? (i := 54) rfl)) rfl
theorem wd820 : Cond.arrayClass .boolean ∈ bG := bm (t_in5 (List.mem_of_getElem? (i := 55) rfl)) rfl
theorem wd821 : Cond.methodLink RL 108 yL_noneBroken ∈ bG := bm (t_in5 (List.mem_of_getElem? (i := 56) rfl)) rfl
theorem wd822 : Cond.static yL_noneBroken ∈ bG := bm (t_in5 (List.mem_of_getElem? (i := 57) rfl)) rfl
theorem wd823 : Cond.code yL_noneBroken method_10_code 3 (some .boolean) ∈ bG := bm (t_in5 (List.mem_of_getElem? (i := 58) rfl)) rfl
theorem wd824 : Cond.methodLink RL 121 yJ6_bitCount_0f7a4 ∈ bG := bm (t_in5 (List.mem_of_getElem? (i := 59) rfl)) rfl
theorem wd825 : Cond.stringRef RL 63 "grid 2 2 4; " ∈ lw_tbl := t_in5 (List.mem_of_getElem? (i := 60) rfl)
theorem wd826 : Cond.fieldLink RL 72 "RiddleMillLaw" "RULES" "[Ljava/lang/String;" ∈ bG := bm (t_in5 (List.mem_of_getElem? (i := 61) rfl)) rfl
theorem wd827 : Cond.laysStatic "RiddleMillLaw" "RULES" "[Ljava/lang/String;" ∈ lw_tbl := t_in5 (List.mem_of_getElem? (i := 62) rfl)
theorem wd828 : Cond.stringRef RL 76 ";" ∈ lw_tbl := t_in5 (List.mem_of_getElem? (i := 63) rfl)
theorem wd829 : Cond.constant RL 140 (65536) ∈ bG := bm (t_in5 (List.mem_of_getElem? (i := 65) rfl)) rfl
theorem wd830 : Cond.sameMethod "java/lang/Throwable" "java/lang/Throwable" "fillInStackTrace" "(I)Ljava/lang/Throwable;" ∈ bG := bm (t_in5 (List.mem_of_getElem? (i := 66) rfl)) rfl
theorem wd831 : Cond.fieldLink "java/lang/String" 9 "java/lang/String" "value" "[B" ∈ bG := bm (t_in5 (List.mem_of_getElem? (i := 67) rfl)) rfl
theorem wd832 : Cond.fieldLink "java/lang/String" 15 "java/lang/String" "coder" "B" ∈ bG := bm (t_in5 (List.mem_of_getElem? (i := 68) rfl)) rfl
theorem wd833 : Cond.fieldLink "java/lang/Enum" 7 "java/lang/Enum" "ordinal" "I" ∈ bG := bm (t_in5 (List.mem_of_getElem? (i := 69) rfl)) rfl
theorem wd834 : Cond.fieldLink RX10 65 "RiddleMill$Kind" "word" "Ljava/lang/String;" ∈ bG := bm (t_in5 (List.mem_of_getElem? (i := 70) rfl)) rfl
theorem wd835 : Cond.fieldLink RX10 73 "RiddleMill$Kind" "number" "I" ∈ bG := bm (t_in5 (List.mem_of_getElem? (i := 71) rfl)) rfl
theorem wd836 : Cond.fieldLink RX5 73 "RiddleMill$Kind" "numbersAhead" "I" ∈ bG := bm (t_in5 (List.mem_of_getElem? (i := 72) rfl)) rfl
theorem wd837 : Cond.fieldLink RX5 76 "RiddleMill$Kind" "exactCells" "I" ∈ bG := bm (t_in5 (List.mem_of_getElem? (i := 73) rfl)) rfl
theorem wd838 : Cond.fieldLink RX11 144 "RiddleMill$Kind" "number" "I" ∈ bG := bm (t_in5 (List.mem_of_getElem? (i := 74) rfl)) rfl
theorem wd839 : Cond.fieldLink RX3 60 "RiddleMill$Kind" "word" "Ljava/lang/String;" ∈ bG := bm (t_in5 (List.mem_of_getElem? (i := 75) rfl)) rfl
theorem wd840 : Cond.fieldLink RX3 66 "RiddleMill$Kind" "numbersAhead" "I" ∈ bG := bm (t_in5 (List.mem_of_getElem? (i := 76) rfl)) rfl
theorem wd841 : Cond.stringRef RX1 74 "differ" ∈ lw_tbl := t_in5 (List.mem_of_getElem? (i := 77) rfl)
theorem wd842 : Cond.laysStatic "RiddleMill$Kind" "SUM" "LRiddleMill$Kind;" ∈ lw_tbl := t_in5 (List.mem_of_getElem? (i := 78) rfl)
theorem wd843 : Cond.laysStatic "RiddleMill$Kind" "PRODUCT" "LRiddleMill$Kind;" ∈ lw_tbl := t_in5 (List.mem_of_getElem? (i := 79) rfl)
theorem wd844 : Cond.laysStatic "RiddleMill$Kind" "LESS" "LRiddleMill$Kind;" ∈ lw_tbl := t_in5 (List.mem_of_getElem? (i := 80) rfl)
theorem wd845 : Cond.laysStatic "RiddleMill$Kind" "UP" "LRiddleMill$Kind;" ∈ lw_tbl := t_in5 (List.mem_of_getElem? (i := 81) rfl)
theorem wd846 : Cond.laysStatic "RiddleMill$Kind" "SEE" "LRiddleMill$Kind;" ∈ lw_tbl := t_in5 (List.mem_of_getElem? (i := 82) rfl)
theorem wd847 : Cond.laysStatic "RiddleMill$Kind" "ODD" "LRiddleMill$Kind;" ∈ lw_tbl := t_in5 (List.mem_of_getElem? (i := 83) rfl)
theorem wd848 : Cond.laysStatic "RiddleMill$Kind" "EVEN" "LRiddleMill$Kind;" ∈ lw_tbl := t_in5 (List.mem_of_getElem? (i := 84) rfl)
theorem wd849 : Cond.laysStatic "RiddleMill$Kind" "COUNT" "LRiddleMill$Kind;" ∈ lw_tbl := t_in5 (List.mem_of_getElem? (i := 85) rfl)
theorem wd850 : Cond.laysStatic "RiddleMill$Kind" "APART" "LRiddleMill$Kind;" ∈ lw_tbl := t_in5 (List.mem_of_getElem? (i := 86) rfl)
theorem wd851 : Cond.laysStatic "RiddleMill$Kind" "SAME" "LRiddleMill$Kind;" ∈ lw_tbl := t_in5 (List.mem_of_getElem? (i := 87) rfl)
theorem wd852 : Cond.stringRef RX1 104 "is" ∈ lw_tbl := t_in5 (List.mem_of_getElem? (i := 88) rfl)
theorem wd853 : Cond.stringRef RL 147 "rows" ∈ lw_tbl := t_in5 (List.mem_of_getElem? (i := 89) rfl)
theorem wd854 : Cond.stringRef RL 149 "columns" ∈ lw_tbl := t_in5 (List.mem_of_getElem? (i := 90) rfl)
theorem wd855 : Cond.stringRef RL 151 "differ a1 b2" ∈ lw_tbl := t_in5 (List.mem_of_getElem? (i := 91) rfl)
theorem wd856 : Cond.stringRef RL 153 "sum 5 a1 b1" ∈ lw_tbl := t_in5 (List.mem_of_getElem? (i := 92) rfl)
theorem wd857 : Cond.stringRef RL 155 "sum 6 a2 b2 a1" ∈ lw_tbl := t_in5 (List.mem_of_getElem? (i := 93) rfl)
theorem wd858 : Cond.stringRef RL 157 "less a2 b1" ∈ lw_tbl := t_in5 (List.mem_of_getElem? (i := 94) rfl)
theorem wd859 : Cond.stringRef RL 159 "up a1 b1" ∈ lw_tbl := t_in5 (List.mem_of_getElem? (i := 95) rfl)
theorem wd860 : Cond.stringRef RL 161 "see 2 a1 b1 a2" ∈ lw_tbl := t_in5 (List.mem_of_getElem? (i := 96) rfl)
theorem wd861 : Cond.stringRef RL 163 "odd a1" ∈ lw_tbl := t_in5 (List.mem_of_getElem? (i := 97) rfl)
theorem wd862 : Cond.stringRef RL 165 "even b2" ∈ lw_tbl := t_in5 (List.mem_of_getElem? (i := 98) rfl)
theorem wd863 : Cond.stringRef RL 167 "count 2 1 a1 b2 b1" ∈ lw_tbl := t_in5 (List.mem_of_getElem? (i := 99) rfl)
theorem wd864 : Cond.stringRef RL 169 "apart 1 a1 b1 b2" ∈ lw_tbl := t_in5 (List.mem_of_getElem? (i := 100) rfl)
theorem wd865 : Cond.stringRef RL 171 "same a1 b2" ∈ lw_tbl := t_in5 (List.mem_of_getElem? (i := 101) rfl)
theorem wd866 : Cond.stringRef RL 173 "product 6 a1 b1 a2" ∈ lw_tbl := t_in5 (List.mem_of_getElem? (i := 102) rfl)
theorem wd867 : Cond.stringRef RL 175 "is a2 2" ∈ lw_tbl := t_in5 (List.mem_of_getElem? (i := 103) rfl)
theorem wd868 : Cond.stringRef RL 177 "is b1 3" ∈ lw_tbl := t_in5 (List.mem_of_getElem? (i := 104) rfl)
theorem wd869 : Cond.arrayOver (.object "java/lang/String") ∈ lw_tbl := t_in5 (List.mem_of_getElem? (i := 105) rfl)
theorem wd870 : Cond.stringRef RX1 80 "sum" ∈ lw_tbl := t_in5 (List.mem_of_getElem? (i := 106) rfl)
theorem wd871 : Cond.stringRef RX1 83 "product" ∈ lw_tbl := t_in5 (List.mem_of_getElem? (i := 107) rfl)
theorem wd872 : Cond.stringRef RX1 86 "less" ∈ lw_tbl := t_in5 (List.mem_of_getElem? (i := 108) rfl)
theorem wd873 : Cond.stringRef RX1 89 "up" ∈ lw_tbl := t_in5 (List.mem_of_getElem? (i := 109) rfl)
theorem wd874 : Cond.stringRef RX1 92 "see" ∈ lw_tbl := t_in5 (List.mem_of_getElem? (i := 110) rfl)
theorem wd875 : Cond.stringRef RX1 95 "odd" ∈ lw_tbl := t_in5 (List.mem_of_getElem? (i := 111) rfl)
theorem wd876 : Cond.stringRef RX1 98 "even" ∈ lw_tbl := t_in5 (List.mem_of_getElem? (i := 112) rfl)
theorem wd877 : Cond.stringRef RX1 101 "count" ∈ lw_tbl := t_in5 (List.mem_of_getElem? (i := 113) rfl)
theorem wd878 : Cond.stringRef RX1 107 "apart" ∈ lw_tbl := t_in5 (List.mem_of_getElem? (i := 114) rfl)
theorem wd879 : Cond.stringRef RX1 110 "same" ∈ lw_tbl := t_in5 (List.mem_of_getElem? (i := 115) rfl)
theorem wd880 : Cond.selects RX10 yX10_addNumber yX10_addNumber ∈ bG := bm (List.mem_append_left _ (List.mem_of_getElem? (i := 0) rfl)) rfl
theorem wd881 : Cond.selects RX10 yX10_add yX10_add ∈ bG := bm (List.mem_append_left _ (List.mem_of_getElem? (i := 1) rfl)) rfl
theorem wd882 : Cond.selects RX10 yX10_addWord yX10_addWord ∈ bG := bm (List.mem_append_left _ (List.mem_of_getElem? (i := 2) rfl)) rfl
theorem wd883 : Cond.selects RX5 yX5_hasForm yX5_hasForm ∈ bG := bm (List.mem_append_left _ (List.mem_of_getElem? (i := 3) rfl)) rfl
theorem wd884 : Cond.selects RX5 yX5_passes yX5_passes ∈ bG := bm (List.mem_append_left _ (List.mem_of_getElem? (i := 4) rfl)) rfl
theorem wd885 : Cond.selects RX5 yX5_passesRule yX5_passesRule ∈ bG := bm (List.mem_append_left _ (List.mem_of_getElem? (i := 5) rfl)) rfl
theorem wd886 : Cond.selects RX5 yX5_passesCells yX5_passesCells ∈ bG := bm (List.mem_append_left _ (List.mem_of_getElem? (i := 6) rfl)) rfl
theorem wd887 : Cond.selects RX5 yX5_fail yX5_fail ∈ bG := bm (List.mem_append_left _ (List.mem_of_getElem? (i := 7) rfl)) rfl
theorem wd888 : Cond.selects RX5 yX5_readSizes yX5_readSizes ∈ bG := bm (List.mem_append_left _ (List.mem_of_getElem? (i := 8) rfl)) rfl
theorem wd889 : Cond.selects RX5 yX5_readRules yX5_readRules ∈ bG := bm (List.mem_append_left _ (List.mem_of_getElem? (i := 9) rfl)) rfl
theorem wd890 : Cond.selects RX5 yX5_readRule yX5_readRule ∈ bG := bm (List.mem_append_left _ (List.mem_of_getElem? (i := 10) rfl)) rfl
theorem wd891 : Cond.selects RX5 yX5_readNumber yX5_readNumber ∈ bG := bm (List.mem_append_left _ (List.mem_of_getElem? (i := 11) rfl)) rfl
theorem wd892 : Cond.selects RX5 yX5_readTimes yX5_readTimes ∈ bG := bm (List.mem_append_left _ (List.mem_of_getElem? (i := 12) rfl)) rfl
theorem wd893 : Cond.selects RX5 yX5_readCells yX5_readCells ∈ bG := bm (List.mem_append_left _ (List.mem_of_getElem? (i := 13) rfl)) rfl
theorem wd894 : Cond.selects RX11 yX11_takeDraft yX11_takeDraft ∈ bG := bm (List.mem_append_left _ (List.mem_of_getElem? (i := 14) rfl)) rfl
theorem wd895 : Cond.selects RX7 yX7_hasPair yX7_hasPair ∈ bG := bm (List.mem_append_left _ (List.mem_of_getElem? (i := 15) rfl)) rfl
theorem wd896 : Cond.selects RX7 yX7_breaksSum yX7_breaksSum ∈ bG := bm (List.mem_append_left _ (List.mem_of_getElem? (i := 16) rfl)) rfl
theorem wd897 : Cond.selects RX7 yX7_breaksProduct yX7_breaksProduct ∈ bG := bm (List.mem_append_left _ (List.mem_of_getElem? (i := 17) rfl)) rfl
theorem wd898 : Cond.selects RX7 yX7_breaksOrder yX7_breaksOrder ∈ bG := bm (List.mem_append_left _ (List.mem_of_getElem? (i := 18) rfl)) rfl
theorem wd899 : Cond.selects RX7 yX7_breaksSight yX7_breaksSight ∈ bG := bm (List.mem_append_left _ (List.mem_of_getElem? (i := 19) rfl)) rfl
theorem wd900 : Cond.selects RX7 yX7_hasRemainder yX7_hasRemainder ∈ bG := bm (List.mem_append_left _ (List.mem_of_getElem? (i := 20) rfl)) rfl
theorem wd901 : Cond.selects RX7 yX7_breaksCount yX7_breaksCount ∈ bG := bm (List.mem_append_left _ (List.mem_of_getElem? (i := 21) rfl)) rfl
theorem wd902 : Cond.selects RX7 yX7_breaksIs yX7_breaksIs ∈ bG := bm (List.mem_append_left _ (List.mem_of_getElem? (i := 22) rfl)) rfl
theorem wd903 : Cond.selects RX7 yX7_breaksApart yX7_breaksApart ∈ bG := bm (List.mem_append_left _ (List.mem_of_getElem? (i := 23) rfl)) rfl
theorem wd904 : Cond.selects "java/lang/Throwable" ⟨"java/lang/Throwable", "fillInStackTrace", "(I)Ljava/lang/Throwable;"⟩ ⟨"java/lang/Throwable", "fillInStackTrace", "(I)Ljava/lang/Throwable;"⟩ ∈ bG := bm (List.mem_append_left _ (List.mem_of_getElem? (i := 24) rfl)) rfl
theorem wd905 : Cond.selects RX11 yX11_requireRule yX11_requireRule ∈ bG := bm (List.mem_append_left _ (List.mem_of_getElem? (i := 25) rfl)) rfl
theorem wd906 : Cond.selects RX11 yX11_requirePuzzle yX11_requirePuzzle ∈ bG := bm (List.mem_append_left _ (List.mem_of_getElem? (i := 26) rfl)) rfl
theorem wd907 : Cond.selects RX3 yX3_addWord yX3_addWord ∈ bG := bm (List.mem_append_left _ (List.mem_of_getElem? (i := 27) rfl)) rfl
theorem wd908 : Cond.selects RX3 yX3_add yX3_add ∈ bG := bm (List.mem_append_left _ (List.mem_of_getElem? (i := 28) rfl)) rfl
theorem wd909 : Cond.selects RX3 yX3_addNumber yX3_addNumber ∈ bG := bm (List.mem_append_left _ (List.mem_of_getElem? (i := 29) rfl)) rfl
theorem wd910 : Cond.selects RX3 yX3_addRule yX3_addRule ∈ bG := bm (List.mem_append_left _ (List.mem_of_getElem? (i := 30) rfl)) rfl
theorem wd911 : Cond.selects RX3 yX3_addCell yX3_addCell ∈ bG := bm (List.mem_append_left _ (List.mem_of_getElem? (i := 31) rfl)) rfl
theorem wd912 : Cond.selects RX11 yX11_requireCell yX11_requireCell ∈ bG := bm (List.mem_append_left _ (List.mem_of_getElem? (i := 32) rfl)) rfl
theorem wd913 : Cond.selects RX8 yX8_begin yX8_begin ∈ bG := bm (List.mem_append_left _ (List.mem_of_getElem? (i := 33) rfl)) rfl
theorem wd914 : Cond.selects RX8 yX8_keep yX8_keep ∈ bG := bm (List.mem_append_left _ (List.mem_of_getElem? (i := 34) rfl)) rfl
theorem wd915 : Cond.selects RX8 yX8_giveUp yX8_giveUp ∈ bG := bm (List.mem_append_left _ (List.mem_of_getElem? (i := 35) rfl)) rfl
theorem wd916 : Cond.selects RX8 yX8_choice yX8_choice ∈ bG := bm (List.mem_append_left _ (List.mem_of_getElem? (i := 36) rfl)) rfl
theorem wd917 : Cond.selects RX6 yX6_findFirstBy yX6_findFirstBy ∈ bG := bm (List.mem_append_left _ (List.mem_of_getElem? (i := 37) rfl)) rfl
theorem wd918 : Cond.selects RX6 yX6_isRefuted yX6_isRefuted ∈ bG := bm (List.mem_append_left _ (List.mem_of_getElem? (i := 38) rfl)) rfl
theorem wd919 : Cond.selects RX6 yX6_hasValue yX6_hasValue ∈ bG := bm (List.mem_append_left _ (List.mem_of_getElem? (i := 39) rfl)) rfl
theorem wd920 : Cond.selects RX6 yX6_gradeOf yX6_gradeOf ∈ bG := bm (List.mem_append_left _ (List.mem_of_getElem? (i := 40) rfl)) rfl
theorem wd921 : Cond.selects RX6 yX6_deduceBy yX6_deduceBy ∈ bG := bm (List.mem_append_left _ (List.mem_of_getElem? (i := 41) rfl)) rfl
theorem wd922 : Cond.selects RX2 yX2_draw yX2_draw ∈ bG := bm (List.mem_append_left _ (List.mem_of_getElem? (i := 42) rfl)) rfl
