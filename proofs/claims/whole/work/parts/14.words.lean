set_option maxRecDepth 100000 in
theorem tw0 : (.initialized "FamilyChartLaw" : Cond) ∈ gw := gw_t 0 (by decide +kernel) rfl
set_option maxRecDepth 100000 in
theorem tw1 : (.initialized "FamilyChart" : Cond) ∈ gw := gw_t 1 (by decide +kernel) rfl
set_option maxRecDepth 100000 in
theorem tw2 : (.initialized "FamilyChart$Input" : Cond) ∈ gw := gw_t 2 (by decide +kernel) rfl
set_option maxRecDepth 100000 in
theorem tw3 : (.initialized "FamilyChart$Family" : Cond) ∈ gw := gw_t 3 (by decide +kernel) rfl
set_option maxRecDepth 100000 in
theorem tw4 : (.initialized "FamilyChart$Relations" : Cond) ∈ gw := gw_t 4 (by decide +kernel) rfl
set_option maxRecDepth 100000 in
theorem tw5 : (.initialized "FamilyChart$Rows" : Cond) ∈ gw := gw_t 5 (by decide +kernel) rfl
set_option maxRecDepth 100000 in
theorem tw6 : (.initialized "FamilyChart$Columns" : Cond) ∈ gw := gw_t 6 (by decide +kernel) rfl
set_option maxRecDepth 100000 in
theorem tw7 : (.initialized "FamilyChart$Printer" : Cond) ∈ gw := gw_t 7 (by decide +kernel) rfl
set_option maxRecDepth 100000 in
theorem tw8 : (.initialized "FamilyChart$History" : Cond) ∈ gw := gw_t 8 (by decide +kernel) rfl
set_option maxRecDepth 100000 in
theorem tw9 : (.initialized "FamilyChart$TextReader" : Cond) ∈ gw := gw_t 9 (by decide +kernel) rfl
set_option maxRecDepth 100000 in
theorem tw10 : (.initialized "FamilyChart$QueryReader" : Cond) ∈ gw := gw_t 10 (by decide +kernel) rfl
set_option maxRecDepth 100000 in
theorem tw11 : (.initialized "FamilyChartModel" : Cond) ∈ gw := gw_t 11 (by decide +kernel) rfl
set_option maxRecDepth 100000 in
theorem tw12 : (.initialized "java/lang/Throwable" : Cond) ∈ gw := gw_t 12 (by decide +kernel) rfl
set_option maxRecDepth 100000 in
theorem tw13 : (.initialized "java/lang/Exception" : Cond) ∈ gw := gw_t 13 (by decide +kernel) rfl
set_option maxRecDepth 100000 in
theorem tw14 : (.initialized "java/lang/RuntimeException" : Cond) ∈ gw := gw_t 14 (by decide +kernel) rfl
set_option maxRecDepth 100000 in
theorem tw15 : (.initialized "java/lang/IllegalArgumentException" : Cond) ∈ gw := gw_t 15 (by decide +kernel) rfl
set_option maxRecDepth 100000 in
theorem tw16 : (.initialized "java/lang/Math" : Cond) ∈ gw := gw_t 16 (by decide +kernel) rfl
set_option maxRecDepth 100000 in
theorem tw17 : (.initialized "java/lang/String" : Cond) ∈ gw := gw_t 17 (by decide +kernel) rfl
set_option maxRecDepth 100000 in
theorem tw18 : (.initialized "java/lang/StringLatin1" : Cond) ∈ gw := gw_t 18 (by decide +kernel) rfl
set_option maxRecDepth 100000 in
theorem tw19 : (.initialized "jdk/internal/util/Preconditions" : Cond) ∈ gw := gw_t 19 (by decide +kernel) rfl
set_option maxRecDepth 100000 in
theorem tw20 : (.initialized "java/lang/StringUTF16" : Cond) ∈ gw := gw_t 20 (by decide +kernel) rfl
set_option maxRecDepth 100000 in
theorem tw21 : (.initialized "java/util/NoSuchElementException" : Cond) ∈ gw := gw_t 21 (by decide +kernel) rfl
set_option maxRecDepth 100000 in
theorem tw22 : (.initialized "java/lang/Integer" : Cond) ∈ gw := gw_t 22 (by decide +kernel) rfl
set_option maxRecDepth 100000 in
theorem tw23 : (.classLink "FamilyChartLaw" 8 "FamilyChart" : Cond) ∈ gw := gw_t 23 (by decide +kernel) rfl
set_option maxRecDepth 100000 in
theorem tw24 : (.instantiable "FamilyChart" 9 : Cond) ∈ gw := gw_t 24 (by decide +kernel) rfl
set_option maxRecDepth 100000 in
theorem tw25 : (.methodLink "FamilyChartLaw" 93 ⟨"FamilyChart", "<init>", "()V"⟩ : Cond) ∈ gw := gw_t 25 (by decide +kernel) rfl
set_option maxRecDepth 100000 in
theorem tw26 : (.instanceMethod ⟨"FamilyChart", "<init>", "()V"⟩ : Cond) ∈ gw := gw_t 26 (by decide +kernel) rfl
set_option maxRecDepth 100000 in
theorem tw27 : (.code ⟨"FamilyChart", "<init>", "()V"⟩ prog_1_method_1_code 1 (Option.none : Option ClassFile.FieldType) : Cond) ∈ gw := gw_t 27 (by decide +kernel) rfl
set_option maxRecDepth 100000 in
theorem tw28 : (.methodLink "FamilyChart" 3 ⟨"java/lang/Object", "<init>", "()V"⟩ : Cond) ∈ gw := gw_t 28 (by decide +kernel) rfl
set_option maxRecDepth 100000 in
theorem tw29 : (.instanceMethod ⟨"java/lang/Object", "<init>", "()V"⟩ : Cond) ∈ gw := gw_t 29 (by decide +kernel) rfl
set_option maxRecDepth 100000 in
theorem tw30 : (.code ⟨"java/lang/Object", "<init>", "()V"⟩ object_method_1_code 1 (Option.none : Option ClassFile.FieldType) : Cond) ∈ gw := gw_t 30 (by decide +kernel) rfl
set_option maxRecDepth 100000 in
theorem tw31 : (.classLink "FamilyChart" 9 "FamilyChart$Input" : Cond) ∈ gw := gw_t 31 (by decide +kernel) rfl
set_option maxRecDepth 100000 in
theorem tw32 : (.instantiable "FamilyChart$Input" 9 : Cond) ∈ gw := gw_t 32 (by decide +kernel) rfl
set_option maxRecDepth 100000 in
theorem tw34 : (.instanceMethod ⟨"FamilyChart$Input", "<init>", "()V"⟩ : Cond) ∈ gw := gw_t 34 (by decide +kernel) rfl
set_option maxRecDepth 100000 in
theorem tw35 : (.code ⟨"FamilyChart$Input", "<init>", "()V"⟩ prog_5_method_1_code 1 (Option.none : Option ClassFile.FieldType) : Cond) ∈ gw := gw_t 35 (by decide +kernel) rfl
set_option maxRecDepth 100000 in
theorem tw36 : (.methodLink "FamilyChart$Input" 3 ⟨"java/lang/Object", "<init>", "()V"⟩ : Cond) ∈ gw := gw_t 36 (by decide +kernel) rfl
set_option maxRecDepth 100000 in
theorem tw37 : (.fieldLink "FamilyChart$Input" 9 "FamilyChart$Input" "bytes" "[I" : Cond) ∈ gw := gw_t 37 (by decide +kernel) rfl
set_option maxRecDepth 100000 in
theorem tw38 : (.fieldLink "FamilyChart$Input" 19 "FamilyChart$Input" "filled" "I" : Cond) ∈ gw := gw_t 38 (by decide +kernel) rfl
set_option maxRecDepth 100000 in
theorem tw39 : (.fieldLink "FamilyChart" 90 "FamilyChart$Input" "filled" "I" : Cond) ∈ gw := gw_t 39 (by decide +kernel) rfl
set_option maxRecDepth 100000 in
theorem tw40 : (.fieldLink "FamilyChart$Input" 26 "FamilyChart$Input" "length" "I" : Cond) ∈ gw := gw_t 40 (by decide +kernel) rfl
set_option maxRecDepth 100000 in
theorem tw41 : (.fieldLink "FamilyChart$TextReader" 35 "FamilyChart$Input" "kind" "I" : Cond) ∈ gw := gw_t 41 (by decide +kernel) rfl
set_option maxRecDepth 100000 in
theorem tw42 : (.fieldLink "FamilyChart$QueryReader" 56 "FamilyChart$Input" "kind" "I" : Cond) ∈ gw := gw_t 42 (by decide +kernel) rfl
set_option maxRecDepth 100000 in
theorem tw43 : (.fieldLink "FamilyChart$Input" 56 "FamilyChart$Input" "kind" "I" : Cond) ∈ gw := gw_t 43 (by decide +kernel) rfl
set_option maxRecDepth 100000 in
theorem tw44 : (.fieldLink "FamilyChart$Input" 42 "FamilyChart$Input" "start" "I" : Cond) ∈ gw := gw_t 44 (by decide +kernel) rfl
set_option maxRecDepth 100000 in
theorem tw45 : (.fieldLink "FamilyChart$Input" 29 "FamilyChart$Input" "stop" "I" : Cond) ∈ gw := gw_t 45 (by decide +kernel) rfl
set_option maxRecDepth 100000 in
theorem tw46 : (.fieldLink "FamilyChart$Input" 53 "FamilyChart$Input" "value" "I" : Cond) ∈ gw := gw_t 46 (by decide +kernel) rfl
set_option maxRecDepth 100000 in
theorem tw47 : (.fieldLink "FamilyChart$QueryReader" 108 "FamilyChart$Input" "value" "I" : Cond) ∈ gw := gw_t 47 (by decide +kernel) rfl
set_option maxRecDepth 100000 in
theorem tw48 : (.fieldLink "FamilyChart$TextReader" 148 "FamilyChart$Input" "value" "I" : Cond) ∈ gw := gw_t 48 (by decide +kernel) rfl
set_option maxRecDepth 100000 in
theorem tw49 : (.fieldLink "FamilyChart$QueryReader" 65 "FamilyChart$Input" "errorCode" "I" : Cond) ∈ gw := gw_t 49 (by decide +kernel) rfl
set_option maxRecDepth 100000 in
theorem tw50 : (.fieldLink "FamilyChart$TextReader" 59 "FamilyChart$Input" "errorCode" "I" : Cond) ∈ gw := gw_t 50 (by decide +kernel) rfl
set_option maxRecDepth 100000 in
theorem tw51 : (.fieldLink "FamilyChart$Input" 32 "FamilyChart$Input" "errorCode" "I" : Cond) ∈ gw := gw_t 51 (by decide +kernel) rfl
set_option maxRecDepth 100000 in
theorem tw52 : (.fieldLink "FamilyChart$Input" 15 "FamilyChart$Input" "errorStart" "I" : Cond) ∈ gw := gw_t 52 (by decide +kernel) rfl
set_option maxRecDepth 100000 in
theorem tw53 : (.fieldLink "FamilyChart" 120 "FamilyChart$Input" "errorStart" "I" : Cond) ∈ gw := gw_t 53 (by decide +kernel) rfl
set_option maxRecDepth 100000 in
theorem tw73 : (.arrayClass ClassFile.FieldType.int : Cond) ∈ gw := gw_t 73 (by decide +kernel) rfl
set_option maxRecDepth 100000 in
theorem tw74 : (.classLink "FamilyChart" 16 "FamilyChart$Family" : Cond) ∈ gw := gw_t 74 (by decide +kernel) rfl
set_option maxRecDepth 100000 in
theorem tw75 : (.instantiable "FamilyChart$Family" 14 : Cond) ∈ gw := gw_t 75 (by decide +kernel) rfl
set_option maxRecDepth 100000 in
theorem tw77 : (.instanceMethod ⟨"FamilyChart$Family", "<init>", "()V"⟩ : Cond) ∈ gw := gw_t 77 (by decide +kernel) rfl
set_option maxRecDepth 100000 in
theorem tw78 : (.code ⟨"FamilyChart$Family", "<init>", "()V"⟩ prog_3_method_1_code 1 (Option.none : Option ClassFile.FieldType) : Cond) ∈ gw := gw_t 78 (by decide +kernel) rfl
set_option maxRecDepth 100000 in
theorem tw79 : (.methodLink "FamilyChart$Family" 3 ⟨"java/lang/Object", "<init>", "()V"⟩ : Cond) ∈ gw := gw_t 79 (by decide +kernel) rfl
set_option maxRecDepth 100000 in
theorem tw80 : (.fieldLink "FamilyChart$Family" 9 "FamilyChart$Family" "letters" "[I" : Cond) ∈ gw := gw_t 80 (by decide +kernel) rfl
set_option maxRecDepth 100000 in
theorem tw81 : (.fieldLink "FamilyChart$Printer" 93 "FamilyChart$Family" "letters" "[I" : Cond) ∈ gw := gw_t 81 (by decide +kernel) rfl
set_option maxRecDepth 100000 in
theorem tw82 : (.fieldLink "FamilyChart$TextReader" 134 "FamilyChart$Family" "letters" "[I" : Cond) ∈ gw := gw_t 82 (by decide +kernel) rfl
set_option maxRecDepth 100000 in
theorem tw83 : (.fieldLink "FamilyChart$Family" 15 "FamilyChart$Family" "letterCount" "[I" : Cond) ∈ gw := gw_t 83 (by decide +kernel) rfl
set_option maxRecDepth 100000 in
theorem tw84 : (.fieldLink "FamilyChart$Columns" 71 "FamilyChart$Family" "letterCount" "[I" : Cond) ∈ gw := gw_t 84 (by decide +kernel) rfl
set_option maxRecDepth 100000 in
theorem tw85 : (.fieldLink "FamilyChart$Printer" 75 "FamilyChart$Family" "letterCount" "[I" : Cond) ∈ gw := gw_t 85 (by decide +kernel) rfl
set_option maxRecDepth 100000 in
theorem tw86 : (.fieldLink "FamilyChart" 159 "FamilyChart$Family" "letterCount" "[I" : Cond) ∈ gw := gw_t 86 (by decide +kernel) rfl
set_option maxRecDepth 100000 in
theorem tw87 : (.fieldLink "FamilyChart$TextReader" 137 "FamilyChart$Family" "letterCount" "[I" : Cond) ∈ gw := gw_t 87 (by decide +kernel) rfl
set_option maxRecDepth 100000 in
theorem tw88 : (.fieldLink "FamilyChart$Family" 18 "FamilyChart$Family" "personYear" "[I" : Cond) ∈ gw := gw_t 88 (by decide +kernel) rfl
set_option maxRecDepth 100000 in
theorem tw89 : (.fieldLink "FamilyChart$TextReader" 86 "FamilyChart$Family" "personYear" "[I" : Cond) ∈ gw := gw_t 89 (by decide +kernel) rfl
set_option maxRecDepth 100000 in
theorem tw90 : (.fieldLink "FamilyChart" 142 "FamilyChart$Family" "personYear" "[I" : Cond) ∈ gw := gw_t 90 (by decide +kernel) rfl
set_option maxRecDepth 100000 in
theorem tw91 : (.fieldLink "FamilyChart$QueryReader" 150 "FamilyChart$Family" "personYear" "[I" : Cond) ∈ gw := gw_t 91 (by decide +kernel) rfl
set_option maxRecDepth 100000 in
theorem tw92 : (.fieldLink "FamilyChart$Family" 21 "FamilyChart$Family" "parentUnion" "[I" : Cond) ∈ gw := gw_t 92 (by decide +kernel) rfl
set_option maxRecDepth 100000 in
theorem tw93 : (.fieldLink "FamilyChart$Columns" 61 "FamilyChart$Family" "parentUnion" "[I" : Cond) ∈ gw := gw_t 93 (by decide +kernel) rfl
set_option maxRecDepth 100000 in
theorem tw94 : (.fieldLink "FamilyChart" 153 "FamilyChart$Family" "parentUnion" "[I" : Cond) ∈ gw := gw_t 94 (by decide +kernel) rfl
set_option maxRecDepth 100000 in
theorem tw95 : (.fieldLink "FamilyChart$TextReader" 131 "FamilyChart$Family" "parentUnion" "[I" : Cond) ∈ gw := gw_t 95 (by decide +kernel) rfl
set_option maxRecDepth 100000 in
theorem tw96 : (.fieldLink "FamilyChart$History" 69 "FamilyChart$Family" "parentUnion" "[I" : Cond) ∈ gw := gw_t 96 (by decide +kernel) rfl
set_option maxRecDepth 100000 in
theorem tw97 : (.fieldLink "FamilyChart$Printer" 124 "FamilyChart$Family" "parentUnion" "[I" : Cond) ∈ gw := gw_t 97 (by decide +kernel) rfl
set_option maxRecDepth 100000 in
theorem tw98 : (.fieldLink "FamilyChart$Rows" 124 "FamilyChart$Family" "parentUnion" "[I" : Cond) ∈ gw := gw_t 98 (by decide +kernel) rfl
set_option maxRecDepth 100000 in
theorem tw99 : (.fieldLink "FamilyChart$Family" 24 "FamilyChart$Family" "firstPartner" "[I" : Cond) ∈ gw := gw_t 99 (by decide +kernel) rfl
set_option maxRecDepth 100000 in
theorem tw100 : (.fieldLink "FamilyChart$Rows" 64 "FamilyChart$Family" "firstPartner" "[I" : Cond) ∈ gw := gw_t 100 (by decide +kernel) rfl
set_option maxRecDepth 100000 in
theorem tw101 : (.fieldLink "FamilyChart$Relations" 68 "FamilyChart$Family" "firstPartner" "[I" : Cond) ∈ gw := gw_t 101 (by decide +kernel) rfl
set_option maxRecDepth 100000 in
theorem tw102 : (.fieldLink "FamilyChart$History" 56 "FamilyChart$Family" "firstPartner" "[I" : Cond) ∈ gw := gw_t 102 (by decide +kernel) rfl
set_option maxRecDepth 100000 in
theorem tw103 : (.fieldLink "FamilyChart" 170 "FamilyChart$Family" "firstPartner" "[I" : Cond) ∈ gw := gw_t 103 (by decide +kernel) rfl
set_option maxRecDepth 100000 in
theorem tw104 : (.fieldLink "FamilyChart$Family" 27 "FamilyChart$Family" "secondPartner" "[I" : Cond) ∈ gw := gw_t 104 (by decide +kernel) rfl
set_option maxRecDepth 100000 in
theorem tw105 : (.fieldLink "FamilyChart$Rows" 67 "FamilyChart$Family" "secondPartner" "[I" : Cond) ∈ gw := gw_t 105 (by decide +kernel) rfl
set_option maxRecDepth 100000 in
theorem tw106 : (.fieldLink "FamilyChart$Relations" 71 "FamilyChart$Family" "secondPartner" "[I" : Cond) ∈ gw := gw_t 106 (by decide +kernel) rfl
set_option maxRecDepth 100000 in
theorem tw107 : (.fieldLink "FamilyChart$History" 63 "FamilyChart$Family" "secondPartner" "[I" : Cond) ∈ gw := gw_t 107 (by decide +kernel) rfl
set_option maxRecDepth 100000 in
theorem tw108 : (.fieldLink "FamilyChart" 173 "FamilyChart$Family" "secondPartner" "[I" : Cond) ∈ gw := gw_t 108 (by decide +kernel) rfl
set_option maxRecDepth 100000 in
theorem tw109 : (.fieldLink "FamilyChart$Family" 30 "FamilyChart$Family" "unionYear" "[I" : Cond) ∈ gw := gw_t 109 (by decide +kernel) rfl
set_option maxRecDepth 100000 in
theorem tw110 : (.fieldLink "FamilyChart$History" 66 "FamilyChart$Family" "unionYear" "[I" : Cond) ∈ gw := gw_t 110 (by decide +kernel) rfl
set_option maxRecDepth 100000 in
theorem tw111 : (.fieldLink "FamilyChart" 176 "FamilyChart$Family" "unionYear" "[I" : Cond) ∈ gw := gw_t 111 (by decide +kernel) rfl
set_option maxRecDepth 100000 in
theorem tw112 : (.fieldLink "FamilyChart$Family" 33 "FamilyChart$Family" "generation" "[I" : Cond) ∈ gw := gw_t 112 (by decide +kernel) rfl
set_option maxRecDepth 100000 in
theorem tw113 : (.fieldLink "FamilyChart$Rows" 73 "FamilyChart$Family" "generation" "[I" : Cond) ∈ gw := gw_t 113 (by decide +kernel) rfl
set_option maxRecDepth 100000 in
theorem tw114 : (.fieldLink "FamilyChart$Relations" 35 "FamilyChart$Family" "generation" "[I" : Cond) ∈ gw := gw_t 114 (by decide +kernel) rfl
set_option maxRecDepth 100000 in
theorem tw115 : (.fieldLink "FamilyChart" 150 "FamilyChart$Family" "generation" "[I" : Cond) ∈ gw := gw_t 115 (by decide +kernel) rfl
set_option maxRecDepth 100000 in
theorem tw116 : (.fieldLink "FamilyChart$Printer" 117 "FamilyChart$Family" "generation" "[I" : Cond) ∈ gw := gw_t 116 (by decide +kernel) rfl
set_option maxRecDepth 100000 in
theorem tw117 : (.fieldLink "FamilyChart$QueryReader" 153 "FamilyChart$Family" "generation" "[I" : Cond) ∈ gw := gw_t 117 (by decide +kernel) rfl
set_option maxRecDepth 100000 in
theorem tw118 : (.fieldLink "FamilyChart$Family" 36 "FamilyChart$Family" "ancestorMask" "[I" : Cond) ∈ gw := gw_t 118 (by decide +kernel) rfl
set_option maxRecDepth 100000 in
theorem tw119 : (.fieldLink "FamilyChart" 201 "FamilyChart$Family" "ancestorMask" "[I" : Cond) ∈ gw := gw_t 119 (by decide +kernel) rfl
set_option maxRecDepth 100000 in
theorem tw120 : (.fieldLink "FamilyChart$QueryReader" 161 "FamilyChart$Family" "ancestorMask" "[I" : Cond) ∈ gw := gw_t 120 (by decide +kernel) rfl
set_option maxRecDepth 100000 in
theorem tw121 : (.fieldLink "FamilyChart$Family" 39 "FamilyChart$Family" "level" "[I" : Cond) ∈ gw := gw_t 121 (by decide +kernel) rfl
set_option maxRecDepth 100000 in
theorem tw122 : (.fieldLink "FamilyChart$Rows" 76 "FamilyChart$Family" "level" "[I" : Cond) ∈ gw := gw_t 122 (by decide +kernel) rfl
set_option maxRecDepth 100000 in
theorem tw123 : (.fieldLink "FamilyChart$Printer" 99 "FamilyChart$Family" "level" "[I" : Cond) ∈ gw := gw_t 123 (by decide +kernel) rfl
set_option maxRecDepth 100000 in
theorem tw124 : (.fieldLink "FamilyChart" 179 "FamilyChart$Family" "level" "[I" : Cond) ∈ gw := gw_t 124 (by decide +kernel) rfl
set_option maxRecDepth 100000 in
theorem tw125 : (.fieldLink "FamilyChart$Family" 42 "FamilyChart$Family" "referenced" "[I" : Cond) ∈ gw := gw_t 125 (by decide +kernel) rfl
set_option maxRecDepth 100000 in
theorem tw126 : (.fieldLink "FamilyChart$Rows" 57 "FamilyChart$Family" "referenced" "[I" : Cond) ∈ gw := gw_t 126 (by decide +kernel) rfl
set_option maxRecDepth 100000 in
theorem tw127 : (.fieldLink "FamilyChart$Family" 45 "FamilyChart$Family" "personCount" "I" : Cond) ∈ gw := gw_t 127 (by decide +kernel) rfl
set_option maxRecDepth 100000 in
theorem tw128 : (.fieldLink "FamilyChart$TextReader" 62 "FamilyChart$Family" "personCount" "I" : Cond) ∈ gw := gw_t 128 (by decide +kernel) rfl
set_option maxRecDepth 100000 in
theorem tw129 : (.fieldLink "FamilyChart" 117 "FamilyChart$Family" "personCount" "I" : Cond) ∈ gw := gw_t 129 (by decide +kernel) rfl
set_option maxRecDepth 100000 in
theorem tw130 : (.fieldLink "FamilyChart$Rows" 70 "FamilyChart$Family" "personCount" "I" : Cond) ∈ gw := gw_t 130 (by decide +kernel) rfl
set_option maxRecDepth 100000 in
theorem tw131 : (.fieldLink "FamilyChart$Relations" 32 "FamilyChart$Family" "personCount" "I" : Cond) ∈ gw := gw_t 131 (by decide +kernel) rfl
set_option maxRecDepth 100000 in
theorem tw132 : (.fieldLink "FamilyChart$QueryReader" 99 "FamilyChart$Family" "personCount" "I" : Cond) ∈ gw := gw_t 132 (by decide +kernel) rfl
set_option maxRecDepth 100000 in
theorem tw133 : (.fieldLink "FamilyChart$Printer" 111 "FamilyChart$Family" "personCount" "I" : Cond) ∈ gw := gw_t 133 (by decide +kernel) rfl
set_option maxRecDepth 100000 in
theorem tw134 : (.fieldLink "FamilyChart$Family" 49 "FamilyChart$Family" "unionCount" "I" : Cond) ∈ gw := gw_t 134 (by decide +kernel) rfl
set_option maxRecDepth 100000 in
theorem tw135 : (.fieldLink "FamilyChart$Rows" 54 "FamilyChart$Family" "unionCount" "I" : Cond) ∈ gw := gw_t 135 (by decide +kernel) rfl
set_option maxRecDepth 100000 in
theorem tw136 : (.fieldLink "FamilyChart$TextReader" 103 "FamilyChart$Family" "unionCount" "I" : Cond) ∈ gw := gw_t 136 (by decide +kernel) rfl
set_option maxRecDepth 100000 in
theorem tw137 : (.fieldLink "FamilyChart" 123 "FamilyChart$Family" "unionCount" "I" : Cond) ∈ gw := gw_t 137 (by decide +kernel) rfl
set_option maxRecDepth 100000 in
theorem tw138 : (.fieldLink "FamilyChart$Relations" 65 "FamilyChart$Family" "unionCount" "I" : Cond) ∈ gw := gw_t 138 (by decide +kernel) rfl
set_option maxRecDepth 100000 in
theorem tw139 : (.fieldLink "FamilyChart$Printer" 96 "FamilyChart$Family" "unionCount" "I" : Cond) ∈ gw := gw_t 139 (by decide +kernel) rfl
set_option maxRecDepth 100000 in
theorem tw140 : (.fieldLink "FamilyChart$History" 47 "FamilyChart$Family" "unionCount" "I" : Cond) ∈ gw := gw_t 140 (by decide +kernel) rfl
set_option maxRecDepth 100000 in
theorem tw141 : (.fieldLink "FamilyChart$Columns" 26 "FamilyChart$Family" "rowCount" "I" : Cond) ∈ gw := gw_t 141 (by decide +kernel) rfl
set_option maxRecDepth 100000 in
theorem tw142 : (.fieldLink "FamilyChart$Rows" 37 "FamilyChart$Family" "rowCount" "I" : Cond) ∈ gw := gw_t 142 (by decide +kernel) rfl
set_option maxRecDepth 100000 in
theorem tw143 : (.fieldLink "FamilyChart$Relations" 26 "FamilyChart$Family" "rowCount" "I" : Cond) ∈ gw := gw_t 143 (by decide +kernel) rfl
set_option maxRecDepth 100000 in
theorem tw144 : (.fieldLink "FamilyChart" 126 "FamilyChart$Family" "rowCount" "I" : Cond) ∈ gw := gw_t 144 (by decide +kernel) rfl
set_option maxRecDepth 100000 in
theorem tw145 : (.fieldLink "FamilyChart$Family" 75 "FamilyChart$Family" "rowCount" "I" : Cond) ∈ gw := gw_t 145 (by decide +kernel) rfl
set_option maxRecDepth 100000 in
theorem tw146 : (.fieldLink "FamilyChart$Printer" 127 "FamilyChart$Family" "rowCount" "I" : Cond) ∈ gw := gw_t 146 (by decide +kernel) rfl
set_option maxRecDepth 100000 in
theorem tw176 : (.classLink "FamilyChart" 23 "FamilyChart$Relations" : Cond) ∈ gw := gw_t 176 (by decide +kernel) rfl
set_option maxRecDepth 100000 in
theorem tw177 : (.instantiable "FamilyChart$Relations" 4 : Cond) ∈ gw := gw_t 177 (by decide +kernel) rfl
set_option maxRecDepth 100000 in
theorem tw178 : (.methodLink "FamilyChart" 25 ⟨"FamilyChart$Relations", "<init>", "(LFamilyChart$Family;)V"⟩ : Cond) ∈ gw := gw_t 178 (by decide +kernel) rfl
set_option maxRecDepth 100000 in
theorem tw179 : (.instanceMethod ⟨"FamilyChart$Relations", "<init>", "(LFamilyChart$Family;)V"⟩ : Cond) ∈ gw := gw_t 179 (by decide +kernel) rfl
set_option maxRecDepth 100000 in
theorem tw180 : (.code ⟨"FamilyChart$Relations", "<init>", "(LFamilyChart$Family;)V"⟩ prog_8_method_1_code 2 (Option.none : Option ClassFile.FieldType) : Cond) ∈ gw := gw_t 180 (by decide +kernel) rfl
set_option maxRecDepth 100000 in
theorem tw181 : (.methodLink "FamilyChart$Relations" 3 ⟨"java/lang/Object", "<init>", "()V"⟩ : Cond) ∈ gw := gw_t 181 (by decide +kernel) rfl
set_option maxRecDepth 100000 in
theorem tw182 : (.fieldLink "FamilyChart$Relations" 22 "FamilyChart$Relations" "family" "LFamilyChart$Family;" : Cond) ∈ gw := gw_t 182 (by decide +kernel) rfl
set_option maxRecDepth 100000 in
theorem tw183 : (.fieldLink "FamilyChart$Relations" 9 "FamilyChart$Relations" "kinships" "[J" : Cond) ∈ gw := gw_t 183 (by decide +kernel) rfl
set_option maxRecDepth 100000 in
theorem tw184 : (.fieldLink "FamilyChart$Relations" 15 "FamilyChart$Relations" "ways" "[I" : Cond) ∈ gw := gw_t 184 (by decide +kernel) rfl
set_option maxRecDepth 100000 in
theorem tw185 : (.fieldLink "FamilyChart$Relations" 19 "FamilyChart$Relations" "nextWays" "[I" : Cond) ∈ gw := gw_t 185 (by decide +kernel) rfl
set_option maxRecDepth 100000 in
theorem tw195 : (.arrayClass ClassFile.FieldType.long : Cond) ∈ gw := gw_t 195 (by decide +kernel) rfl
set_option maxRecDepth 100000 in
theorem tw196 : (.classLink "FamilyChart" 32 "FamilyChart$Rows" : Cond) ∈ gw := gw_t 196 (by decide +kernel) rfl
set_option maxRecDepth 100000 in
theorem tw197 : (.instantiable "FamilyChart$Rows" 7 : Cond) ∈ gw := gw_t 197 (by decide +kernel) rfl
set_option maxRecDepth 100000 in
theorem tw198 : (.methodLink "FamilyChart" 34 ⟨"FamilyChart$Rows", "<init>", "(LFamilyChart$Family;)V"⟩ : Cond) ∈ gw := gw_t 198 (by decide +kernel) rfl
set_option maxRecDepth 100000 in
theorem tw199 : (.instanceMethod ⟨"FamilyChart$Rows", "<init>", "(LFamilyChart$Family;)V"⟩ : Cond) ∈ gw := gw_t 199 (by decide +kernel) rfl
set_option maxRecDepth 100000 in
theorem tw200 : (.code ⟨"FamilyChart$Rows", "<init>", "(LFamilyChart$Family;)V"⟩ prog_9_method_1_code 2 (Option.none : Option ClassFile.FieldType) : Cond) ∈ gw := gw_t 200 (by decide +kernel) rfl
set_option maxRecDepth 100000 in
theorem tw201 : (.methodLink "FamilyChart$Rows" 3 ⟨"java/lang/Object", "<init>", "()V"⟩ : Cond) ∈ gw := gw_t 201 (by decide +kernel) rfl
set_option maxRecDepth 100000 in
theorem tw202 : (.fieldLink "FamilyChart$Rows" 30 "FamilyChart$Rows" "family" "LFamilyChart$Family;" : Cond) ∈ gw := gw_t 202 (by decide +kernel) rfl
set_option maxRecDepth 100000 in
theorem tw203 : (.fieldLink "FamilyChart$Rows" 9 "FamilyChart$Rows" "order" "[I" : Cond) ∈ gw := gw_t 203 (by decide +kernel) rfl
set_option maxRecDepth 100000 in
theorem tw204 : (.fieldLink "FamilyChart$Rows" 15 "FamilyChart$Rows" "rowStart" "[I" : Cond) ∈ gw := gw_t 204 (by decide +kernel) rfl
set_option maxRecDepth 100000 in
theorem tw205 : (.fieldLink "FamilyChart$Rows" 18 "FamilyChart$Rows" "placeOf" "[I" : Cond) ∈ gw := gw_t 205 (by decide +kernel) rfl
set_option maxRecDepth 100000 in
theorem tw206 : (.fieldLink "FamilyChart" 256 "FamilyChart$Rows" "placeOf" "[I" : Cond) ∈ gw := gw_t 206 (by decide +kernel) rfl
set_option maxRecDepth 100000 in
theorem tw207 : (.fieldLink "FamilyChart$Rows" 21 "FamilyChart$Rows" "firstBox" "[I" : Cond) ∈ gw := gw_t 207 (by decide +kernel) rfl
set_option maxRecDepth 100000 in
theorem tw208 : (.fieldLink "FamilyChart$Columns" 77 "FamilyChart$Rows" "firstBox" "[I" : Cond) ∈ gw := gw_t 208 (by decide +kernel) rfl
set_option maxRecDepth 100000 in
theorem tw209 : (.fieldLink "FamilyChart$Rows" 24 "FamilyChart$Rows" "secondBox" "[I" : Cond) ∈ gw := gw_t 209 (by decide +kernel) rfl
set_option maxRecDepth 100000 in
theorem tw210 : (.fieldLink "FamilyChart$Columns" 80 "FamilyChart$Rows" "secondBox" "[I" : Cond) ∈ gw := gw_t 210 (by decide +kernel) rfl
set_option maxRecDepth 100000 in
theorem tw211 : (.fieldLink "FamilyChart$Rows" 27 "FamilyChart$Rows" "keys" "[I" : Cond) ∈ gw := gw_t 211 (by decide +kernel) rfl
set_option maxRecDepth 100000 in
theorem tw227 : (.classLink "FamilyChart" 39 "FamilyChart$Columns" : Cond) ∈ gw := gw_t 227 (by decide +kernel) rfl
set_option maxRecDepth 100000 in
theorem tw228 : (.instantiable "FamilyChart$Columns" 4 : Cond) ∈ gw := gw_t 228 (by decide +kernel) rfl
set_option maxRecDepth 100000 in
theorem tw229 : (.methodLink "FamilyChart" 41 ⟨"FamilyChart$Columns", "<init>", "(LFamilyChart$Family;LFamilyChart$Rows;)V"⟩ : Cond) ∈ gw := gw_t 229 (by decide +kernel) rfl
set_option maxRecDepth 100000 in
theorem tw230 : (.instanceMethod ⟨"FamilyChart$Columns", "<init>", "(LFamilyChart$Family;LFamilyChart$Rows;)V"⟩ : Cond) ∈ gw := gw_t 230 (by decide +kernel) rfl
set_option maxRecDepth 100000 in
theorem tw231 : (.code ⟨"FamilyChart$Columns", "<init>", "(LFamilyChart$Family;LFamilyChart$Rows;)V"⟩ prog_2_method_1_code 3 (Option.none : Option ClassFile.FieldType) : Cond) ∈ gw := gw_t 231 (by decide +kernel) rfl
set_option maxRecDepth 100000 in
theorem tw232 : (.methodLink "FamilyChart$Columns" 3 ⟨"java/lang/Object", "<init>", "()V"⟩ : Cond) ∈ gw := gw_t 232 (by decide +kernel) rfl
set_option maxRecDepth 100000 in
theorem tw233 : (.fieldLink "FamilyChart$Columns" 18 "FamilyChart$Columns" "family" "LFamilyChart$Family;" : Cond) ∈ gw := gw_t 233 (by decide +kernel) rfl
set_option maxRecDepth 100000 in
theorem tw234 : (.fieldLink "FamilyChart$Columns" 22 "FamilyChart$Columns" "rows" "LFamilyChart$Rows;" : Cond) ∈ gw := gw_t 234 (by decide +kernel) rfl
set_option maxRecDepth 100000 in
theorem tw235 : (.fieldLink "FamilyChart$Columns" 9 "FamilyChart$Columns" "firstColumn" "[I" : Cond) ∈ gw := gw_t 235 (by decide +kernel) rfl
set_option maxRecDepth 100000 in
theorem tw236 : (.fieldLink "FamilyChart$Printer" 84 "FamilyChart$Columns" "firstColumn" "[I" : Cond) ∈ gw := gw_t 236 (by decide +kernel) rfl
set_option maxRecDepth 100000 in
theorem tw237 : (.fieldLink "FamilyChart" 248 "FamilyChart$Columns" "firstColumn" "[I" : Cond) ∈ gw := gw_t 237 (by decide +kernel) rfl
set_option maxRecDepth 100000 in
theorem tw238 : (.fieldLink "FamilyChart$Columns" 15 "FamilyChart$Columns" "middleColumn" "[I" : Cond) ∈ gw := gw_t 238 (by decide +kernel) rfl
set_option maxRecDepth 100000 in
theorem tw239 : (.fieldLink "FamilyChart$Printer" 114 "FamilyChart$Columns" "middleColumn" "[I" : Cond) ∈ gw := gw_t 239 (by decide +kernel) rfl
set_option maxRecDepth 100000 in
theorem tw249 : (.classLink "FamilyChart" 48 "FamilyChart$Printer" : Cond) ∈ gw := gw_t 249 (by decide +kernel) rfl
set_option maxRecDepth 100000 in
theorem tw250 : (.instantiable "FamilyChart$Printer" 7 : Cond) ∈ gw := gw_t 250 (by decide +kernel) rfl
set_option maxRecDepth 100000 in
theorem tw251 : (.methodLink "FamilyChart" 50 ⟨"FamilyChart$Printer", "<init>", "(LFamilyChart$Family;LFamilyChart$Rows;LFamilyChart$Columns;)V"⟩ : Cond) ∈ gw := gw_t 251 (by decide +kernel) rfl
set_option maxRecDepth 100000 in
theorem tw252 : (.instanceMethod ⟨"FamilyChart$Printer", "<init>", "(LFamilyChart$Family;LFamilyChart$Rows;LFamilyChart$Columns;)V"⟩ : Cond) ∈ gw := gw_t 252 (by decide +kernel) rfl
set_option maxRecDepth 100000 in
theorem tw253 : (.code ⟨"FamilyChart$Printer", "<init>", "(LFamilyChart$Family;LFamilyChart$Rows;LFamilyChart$Columns;)V"⟩ prog_6_method_1_code 4 (Option.none : Option ClassFile.FieldType) : Cond) ∈ gw := gw_t 253 (by decide +kernel) rfl
set_option maxRecDepth 100000 in
theorem tw254 : (.methodLink "FamilyChart$Printer" 3 ⟨"java/lang/Object", "<init>", "()V"⟩ : Cond) ∈ gw := gw_t 254 (by decide +kernel) rfl
set_option maxRecDepth 100000 in
theorem tw255 : (.fieldLink "FamilyChart$Printer" 22 "FamilyChart$Printer" "family" "LFamilyChart$Family;" : Cond) ∈ gw := gw_t 255 (by decide +kernel) rfl
set_option maxRecDepth 100000 in
theorem tw256 : (.fieldLink "FamilyChart$Printer" 26 "FamilyChart$Printer" "rows" "LFamilyChart$Rows;" : Cond) ∈ gw := gw_t 256 (by decide +kernel) rfl
set_option maxRecDepth 100000 in
theorem tw257 : (.fieldLink "FamilyChart$Printer" 30 "FamilyChart$Printer" "columns" "LFamilyChart$Columns;" : Cond) ∈ gw := gw_t 257 (by decide +kernel) rfl
set_option maxRecDepth 100000 in
theorem tw258 : (.fieldLink "FamilyChart$Printer" 9 "FamilyChart$Printer" "line" "[I" : Cond) ∈ gw := gw_t 258 (by decide +kernel) rfl
set_option maxRecDepth 100000 in
theorem tw259 : (.fieldLink "FamilyChart$Printer" 15 "FamilyChart$Printer" "lineLength" "I" : Cond) ∈ gw := gw_t 259 (by decide +kernel) rfl
set_option maxRecDepth 100000 in
theorem tw260 : (.fieldLink "FamilyChart$Printer" 19 "FamilyChart$Printer" "text" "[I" : Cond) ∈ gw := gw_t 260 (by decide +kernel) rfl
set_option maxRecDepth 100000 in
theorem tw261 : (.fieldLink "FamilyChart" 290 "FamilyChart$Printer" "text" "[I" : Cond) ∈ gw := gw_t 261 (by decide +kernel) rfl
set_option maxRecDepth 100000 in
theorem tw262 : (.fieldLink "FamilyChart$Printer" 133 "FamilyChart$Printer" "textLength" "I" : Cond) ∈ gw := gw_t 262 (by decide +kernel) rfl
set_option maxRecDepth 100000 in
theorem tw263 : (.fieldLink "FamilyChart" 287 "FamilyChart$Printer" "textLength" "I" : Cond) ∈ gw := gw_t 263 (by decide +kernel) rfl
set_option maxRecDepth 100000 in
theorem tw279 : (.classLink "FamilyChart" 57 "FamilyChart$History" : Cond) ∈ gw := gw_t 279 (by decide +kernel) rfl
set_option maxRecDepth 100000 in
theorem tw280 : (.instantiable "FamilyChart$History" 6 : Cond) ∈ gw := gw_t 280 (by decide +kernel) rfl
set_option maxRecDepth 100000 in
theorem tw281 : (.methodLink "FamilyChart" 59 ⟨"FamilyChart$History", "<init>", "(LFamilyChart$Family;LFamilyChart$Rows;)V"⟩ : Cond) ∈ gw := gw_t 281 (by decide +kernel) rfl
set_option maxRecDepth 100000 in
theorem tw282 : (.instanceMethod ⟨"FamilyChart$History", "<init>", "(LFamilyChart$Family;LFamilyChart$Rows;)V"⟩ : Cond) ∈ gw := gw_t 282 (by decide +kernel) rfl
set_option maxRecDepth 100000 in
theorem tw283 : (.code ⟨"FamilyChart$History", "<init>", "(LFamilyChart$Family;LFamilyChart$Rows;)V"⟩ prog_4_method_1_code 3 (Option.none : Option ClassFile.FieldType) : Cond) ∈ gw := gw_t 283 (by decide +kernel) rfl
set_option maxRecDepth 100000 in
theorem tw284 : (.methodLink "FamilyChart$History" 5 ⟨"java/lang/Object", "<init>", "()V"⟩ : Cond) ∈ gw := gw_t 284 (by decide +kernel) rfl
set_option maxRecDepth 100000 in
theorem tw285 : (.fieldLink "FamilyChart$History" 15 "FamilyChart$History" "family" "LFamilyChart$Family;" : Cond) ∈ gw := gw_t 285 (by decide +kernel) rfl
set_option maxRecDepth 100000 in
theorem tw286 : (.fieldLink "FamilyChart$History" 19 "FamilyChart$History" "rows" "LFamilyChart$Rows;" : Cond) ∈ gw := gw_t 286 (by decide +kernel) rfl
set_option maxRecDepth 100000 in
theorem tw287 : (.fieldLink "FamilyChart$History" 11 "FamilyChart$History" "cells" "[I" : Cond) ∈ gw := gw_t 287 (by decide +kernel) rfl
set_option maxRecDepth 100000 in
theorem tw288 : (.fieldLink "FamilyChart$History" 31 "FamilyChart$History" "next" "I" : Cond) ∈ gw := gw_t 288 (by decide +kernel) rfl
set_option maxRecDepth 100000 in
theorem tw289 : (.fieldLink "FamilyChart$History" 23 "FamilyChart$History" "held" "I" : Cond) ∈ gw := gw_t 289 (by decide +kernel) rfl
set_option maxRecDepth 100000 in
theorem tw290 : (.fieldLink "FamilyChart" 337 "FamilyChart$History" "held" "I" : Cond) ∈ gw := gw_t 290 (by decide +kernel) rfl
set_option maxRecDepth 100000 in
theorem tw291 : (.fieldLink "FamilyChart$History" 27 "FamilyChart$History" "snapshotKept" "Z" : Cond) ∈ gw := gw_t 291 (by decide +kernel) rfl
set_option maxRecDepth 100000 in
theorem tw292 : (.fieldLink "FamilyChart" 346 "FamilyChart$History" "snapshotKept" "Z" : Cond) ∈ gw := gw_t 292 (by decide +kernel) rfl
set_option maxRecDepth 100000 in
theorem tw306 : (.classLink "FamilyChart" 64 "FamilyChart$TextReader" : Cond) ∈ gw := gw_t 306 (by decide +kernel) rfl
set_option maxRecDepth 100000 in
theorem tw307 : (.instantiable "FamilyChart$TextReader" 2 : Cond) ∈ gw := gw_t 307 (by decide +kernel) rfl
set_option maxRecDepth 100000 in
theorem tw308 : (.methodLink "FamilyChart" 66 ⟨"FamilyChart$TextReader", "<init>", "(LFamilyChart$Input;)V"⟩ : Cond) ∈ gw := gw_t 308 (by decide +kernel) rfl
set_option maxRecDepth 100000 in
theorem tw309 : (.instanceMethod ⟨"FamilyChart$TextReader", "<init>", "(LFamilyChart$Input;)V"⟩ : Cond) ∈ gw := gw_t 309 (by decide +kernel) rfl
set_option maxRecDepth 100000 in
theorem tw310 : (.code ⟨"FamilyChart$TextReader", "<init>", "(LFamilyChart$Input;)V"⟩ prog_10_method_1_code 2 (Option.none : Option ClassFile.FieldType) : Cond) ∈ gw := gw_t 310 (by decide +kernel) rfl
set_option maxRecDepth 100000 in
theorem tw311 : (.methodLink "FamilyChart$TextReader" 3 ⟨"java/lang/Object", "<init>", "()V"⟩ : Cond) ∈ gw := gw_t 311 (by decide +kernel) rfl
set_option maxRecDepth 100000 in
theorem tw312 : (.classLink "FamilyChart$TextReader" 9 "FamilyChart$Family" : Cond) ∈ gw := gw_t 312 (by decide +kernel) rfl
set_option maxRecDepth 100000 in
theorem tw314 : (.fieldLink "FamilyChart$TextReader" 18 "FamilyChart$TextReader" "input" "LFamilyChart$Input;" : Cond) ∈ gw := gw_t 314 (by decide +kernel) rfl
set_option maxRecDepth 100000 in
theorem tw315 : (.fieldLink "FamilyChart$TextReader" 12 "FamilyChart$TextReader" "draft" "LFamilyChart$Family;" : Cond) ∈ gw := gw_t 315 (by decide +kernel) rfl
set_option maxRecDepth 100000 in
theorem tw316 : (.fieldLink "FamilyChart" 105 "FamilyChart$TextReader" "draft" "LFamilyChart$Family;" : Cond) ∈ gw := gw_t 316 (by decide +kernel) rfl
set_option maxRecDepth 100000 in
theorem tw322 : (.classLink "FamilyChart" 73 "FamilyChart$QueryReader" : Cond) ∈ gw := gw_t 322 (by decide +kernel) rfl
set_option maxRecDepth 100000 in
theorem tw323 : (.instantiable "FamilyChart$QueryReader" 5 : Cond) ∈ gw := gw_t 323 (by decide +kernel) rfl
set_option maxRecDepth 100000 in
theorem tw324 : (.methodLink "FamilyChart" 75 ⟨"FamilyChart$QueryReader", "<init>", "(LFamilyChart$Input;LFamilyChart$Family;)V"⟩ : Cond) ∈ gw := gw_t 324 (by decide +kernel) rfl
set_option maxRecDepth 100000 in
theorem tw325 : (.instanceMethod ⟨"FamilyChart$QueryReader", "<init>", "(LFamilyChart$Input;LFamilyChart$Family;)V"⟩ : Cond) ∈ gw := gw_t 325 (by decide +kernel) rfl
set_option maxRecDepth 100000 in
theorem tw326 : (.code ⟨"FamilyChart$QueryReader", "<init>", "(LFamilyChart$Input;LFamilyChart$Family;)V"⟩ prog_7_method_1_code 3 (Option.none : Option ClassFile.FieldType) : Cond) ∈ gw := gw_t 326 (by decide +kernel) rfl
set_option maxRecDepth 100000 in
theorem tw327 : (.methodLink "FamilyChart$QueryReader" 3 ⟨"java/lang/Object", "<init>", "()V"⟩ : Cond) ∈ gw := gw_t 327 (by decide +kernel) rfl
set_option maxRecDepth 100000 in
theorem tw328 : (.fieldLink "FamilyChart$QueryReader" 21 "FamilyChart$QueryReader" "input" "LFamilyChart$Input;" : Cond) ∈ gw := gw_t 328 (by decide +kernel) rfl
set_option maxRecDepth 100000 in
theorem tw329 : (.fieldLink "FamilyChart$QueryReader" 25 "FamilyChart$QueryReader" "family" "LFamilyChart$Family;" : Cond) ∈ gw := gw_t 329 (by decide +kernel) rfl
set_option maxRecDepth 100000 in
theorem tw330 : (.fieldLink "FamilyChart$QueryReader" 9 "FamilyChart$QueryReader" "leftValues" "[I" : Cond) ∈ gw := gw_t 330 (by decide +kernel) rfl
set_option maxRecDepth 100000 in
theorem tw331 : (.fieldLink "FamilyChart$QueryReader" 15 "FamilyChart$QueryReader" "rightValues" "[I" : Cond) ∈ gw := gw_t 331 (by decide +kernel) rfl
set_option maxRecDepth 100000 in
theorem tw332 : (.fieldLink "FamilyChart$QueryReader" 18 "FamilyChart$QueryReader" "properties" "[I" : Cond) ∈ gw := gw_t 332 (by decide +kernel) rfl
set_option maxRecDepth 100000 in
theorem tw344 : (.fieldLink "FamilyChart" 12 "FamilyChart" "input" "LFamilyChart$Input;" : Cond) ∈ gw := gw_t 344 (by decide +kernel) rfl
set_option maxRecDepth 100000 in
theorem tw345 : (.fieldLink "FamilyChart" 19 "FamilyChart" "family" "LFamilyChart$Family;" : Cond) ∈ gw := gw_t 345 (by decide +kernel) rfl
set_option maxRecDepth 100000 in
theorem tw346 : (.fieldLink "FamilyChart" 28 "FamilyChart" "relations" "LFamilyChart$Relations;" : Cond) ∈ gw := gw_t 346 (by decide +kernel) rfl
set_option maxRecDepth 100000 in
theorem tw347 : (.fieldLink "FamilyChart" 35 "FamilyChart" "rows" "LFamilyChart$Rows;" : Cond) ∈ gw := gw_t 347 (by decide +kernel) rfl
set_option maxRecDepth 100000 in
theorem tw348 : (.fieldLink "FamilyChart" 44 "FamilyChart" "columns" "LFamilyChart$Columns;" : Cond) ∈ gw := gw_t 348 (by decide +kernel) rfl
set_option maxRecDepth 100000 in
theorem tw349 : (.fieldLink "FamilyChart" 53 "FamilyChart" "printer" "LFamilyChart$Printer;" : Cond) ∈ gw := gw_t 349 (by decide +kernel) rfl
set_option maxRecDepth 100000 in
theorem tw350 : (.fieldLink "FamilyChart" 60 "FamilyChart" "history" "LFamilyChart$History;" : Cond) ∈ gw := gw_t 350 (by decide +kernel) rfl
set_option maxRecDepth 100000 in
theorem tw351 : (.fieldLink "FamilyChart" 69 "FamilyChart" "textReader" "LFamilyChart$TextReader;" : Cond) ∈ gw := gw_t 351 (by decide +kernel) rfl
set_option maxRecDepth 100000 in
theorem tw352 : (.fieldLink "FamilyChart" 78 "FamilyChart" "queryReader" "LFamilyChart$QueryReader;" : Cond) ∈ gw := gw_t 352 (by decide +kernel) rfl
set_option maxRecDepth 100000 in
theorem tw372 : (.methodLink "FamilyChartLaw" 97 ⟨"FamilyChart", "feed", "(IIIII)I"⟩ : Cond) ∈ gw := gw_t 372 (by decide +kernel) rfl
set_option maxRecDepth 100000 in
theorem tw373 : (.instanceMethod ⟨"FamilyChart", "feed", "(IIIII)I"⟩ : Cond) ∈ gw := gw_t 373 (by decide +kernel) rfl
set_option maxRecDepth 100000 in
theorem tw374 : (.selects "FamilyChart" ⟨"FamilyChart", "feed", "(IIIII)I"⟩ ⟨"FamilyChart", "feed", "(IIIII)I"⟩ : Cond) ∈ gw := gw_t 374 (by decide +kernel) rfl
set_option maxRecDepth 100000 in
theorem tw375 : (.code ⟨"FamilyChart", "feed", "(IIIII)I"⟩ prog_1_method_2_code 6 (Option.some ClassFile.FieldType.int) : Cond) ∈ gw := gw_t 375 (by decide +kernel) rfl
set_option maxRecDepth 100000 in
theorem tw376 : (.methodLink "FamilyChart" 82 ⟨"FamilyChart$Input", "hasRoom", "()Z"⟩ : Cond) ∈ gw := gw_t 376 (by decide +kernel) rfl
set_option maxRecDepth 100000 in
theorem tw377 : (.instanceMethod ⟨"FamilyChart$Input", "hasRoom", "()Z"⟩ : Cond) ∈ gw := gw_t 377 (by decide +kernel) rfl
set_option maxRecDepth 100000 in
theorem tw378 : (.selects "FamilyChart$Input" ⟨"FamilyChart$Input", "hasRoom", "()Z"⟩ ⟨"FamilyChart$Input", "hasRoom", "()Z"⟩ : Cond) ∈ gw := gw_t 378 (by decide +kernel) rfl
set_option maxRecDepth 100000 in
theorem tw379 : (.code ⟨"FamilyChart$Input", "hasRoom", "()Z"⟩ prog_5_method_2_code 1 (Option.some ClassFile.FieldType.boolean) : Cond) ∈ gw := gw_t 379 (by decide +kernel) rfl
set_option maxRecDepth 100000 in
theorem tw380 : (.methodLink "FamilyChart" 86 ⟨"FamilyChart$Input", "append", "(I)V"⟩ : Cond) ∈ gw := gw_t 380 (by decide +kernel) rfl
set_option maxRecDepth 100000 in
theorem tw381 : (.instanceMethod ⟨"FamilyChart$Input", "append", "(I)V"⟩ : Cond) ∈ gw := gw_t 381 (by decide +kernel) rfl
set_option maxRecDepth 100000 in
theorem tw382 : (.selects "FamilyChart$Input" ⟨"FamilyChart$Input", "append", "(I)V"⟩ ⟨"FamilyChart$Input", "append", "(I)V"⟩ : Cond) ∈ gw := gw_t 382 (by decide +kernel) rfl
set_option maxRecDepth 100000 in
theorem tw383 : (.code ⟨"FamilyChart$Input", "append", "(I)V"⟩ prog_5_method_3_code 3 (Option.none : Option ClassFile.FieldType) : Cond) ∈ gw := gw_t 383 (by decide +kernel) rfl
set_option maxRecDepth 100000 in
theorem tw385 : (.static ⟨"FamilyChart", "put", "([III)V"⟩ : Cond) ∈ gw := gw_t 385 (by decide +kernel) rfl
set_option maxRecDepth 100000 in
theorem tw386 : (.code ⟨"FamilyChart", "put", "([III)V"⟩ prog_1_method_48_code 3 (Option.none : Option ClassFile.FieldType) : Cond) ∈ gw := gw_t 386 (by decide +kernel) rfl
set_option maxRecDepth 100000 in
theorem tw387 : (.methodLink "FamilyChartLaw" 112 ⟨"FamilyChart", "errorPosition", "()I"⟩ : Cond) ∈ gw := gw_t 387 (by decide +kernel) rfl
set_option maxRecDepth 100000 in
theorem tw388 : (.instanceMethod ⟨"FamilyChart", "errorPosition", "()I"⟩ : Cond) ∈ gw := gw_t 388 (by decide +kernel) rfl
set_option maxRecDepth 100000 in
theorem tw389 : (.selects "FamilyChart" ⟨"FamilyChart", "errorPosition", "()I"⟩ ⟨"FamilyChart", "errorPosition", "()I"⟩ : Cond) ∈ gw := gw_t 389 (by decide +kernel) rfl
set_option maxRecDepth 100000 in
theorem tw390 : (.code ⟨"FamilyChart", "errorPosition", "()I"⟩ prog_1_method_4_code 1 (Option.some ClassFile.FieldType.int) : Cond) ∈ gw := gw_t 390 (by decide +kernel) rfl
set_option maxRecDepth 100000 in
theorem tw391 : (.methodLink "FamilyChartLaw" 116 ⟨"FamilyChart", "count", "(I)I"⟩ : Cond) ∈ gw := gw_t 391 (by decide +kernel) rfl
set_option maxRecDepth 100000 in
theorem tw392 : (.instanceMethod ⟨"FamilyChart", "count", "(I)I"⟩ : Cond) ∈ gw := gw_t 392 (by decide +kernel) rfl
set_option maxRecDepth 100000 in
theorem tw393 : (.selects "FamilyChart" ⟨"FamilyChart", "count", "(I)I"⟩ ⟨"FamilyChart", "count", "(I)I"⟩ : Cond) ∈ gw := gw_t 393 (by decide +kernel) rfl
set_option maxRecDepth 100000 in
theorem tw394 : (.code ⟨"FamilyChart", "count", "(I)I"⟩ prog_1_method_5_code 2 (Option.some ClassFile.FieldType.int) : Cond) ∈ gw := gw_t 394 (by decide +kernel) rfl
set_option maxRecDepth 100000 in
theorem tw395 : (.methodLink "FamilyChart" 129 ⟨"FamilyChart$Rows", "boxCount", "()I"⟩ : Cond) ∈ gw := gw_t 395 (by decide +kernel) rfl
set_option maxRecDepth 100000 in
theorem tw396 : (.instanceMethod ⟨"FamilyChart$Rows", "boxCount", "()I"⟩ : Cond) ∈ gw := gw_t 396 (by decide +kernel) rfl
set_option maxRecDepth 100000 in
theorem tw397 : (.selects "FamilyChart$Rows" ⟨"FamilyChart$Rows", "boxCount", "()I"⟩ ⟨"FamilyChart$Rows", "boxCount", "()I"⟩ : Cond) ∈ gw := gw_t 397 (by decide +kernel) rfl
set_option maxRecDepth 100000 in
theorem tw398 : (.code ⟨"FamilyChart$Rows", "boxCount", "()I"⟩ prog_9_method_8_code 1 (Option.some ClassFile.FieldType.int) : Cond) ∈ gw := gw_t 398 (by decide +kernel) rfl
set_option maxRecDepth 100000 in
theorem tw400 : (.static ⟨"FamilyChart", "at", "([II)I"⟩ : Cond) ∈ gw := gw_t 400 (by decide +kernel) rfl
set_option maxRecDepth 100000 in
theorem tw401 : (.code ⟨"FamilyChart", "at", "([II)I"⟩ prog_1_method_47_code 2 (Option.some ClassFile.FieldType.int) : Cond) ∈ gw := gw_t 401 (by decide +kernel) rfl
set_option maxRecDepth 100000 in
theorem tw402 : (.methodLink "FamilyChart" 133 ⟨"FamilyChart$Family", "countWithoutParents", "()I"⟩ : Cond) ∈ gw := gw_t 402 (by decide +kernel) rfl
set_option maxRecDepth 100000 in
theorem tw403 : (.instanceMethod ⟨"FamilyChart$Family", "countWithoutParents", "()I"⟩ : Cond) ∈ gw := gw_t 403 (by decide +kernel) rfl
set_option maxRecDepth 100000 in
theorem tw404 : (.selects "FamilyChart$Family" ⟨"FamilyChart$Family", "countWithoutParents", "()I"⟩ ⟨"FamilyChart$Family", "countWithoutParents", "()I"⟩ : Cond) ∈ gw := gw_t 404 (by decide +kernel) rfl
set_option maxRecDepth 100000 in
theorem tw405 : (.code ⟨"FamilyChart$Family", "countWithoutParents", "()I"⟩ prog_3_method_24_code 3 (Option.some ClassFile.FieldType.int) : Cond) ∈ gw := gw_t 405 (by decide +kernel) rfl
set_option maxRecDepth 100000 in
theorem tw406 : (.methodLink "FamilyChart$Family" 88 ⟨"FamilyChart$Family", "hasParents", "(I)Z"⟩ : Cond) ∈ gw := gw_t 406 (by decide +kernel) rfl
set_option maxRecDepth 100000 in
theorem tw407 : (.instanceMethod ⟨"FamilyChart$Family", "hasParents", "(I)Z"⟩ : Cond) ∈ gw := gw_t 407 (by decide +kernel) rfl
set_option maxRecDepth 100000 in
theorem tw408 : (.selects "FamilyChart$Family" ⟨"FamilyChart$Family", "hasParents", "(I)Z"⟩ ⟨"FamilyChart$Family", "hasParents", "(I)Z"⟩ : Cond) ∈ gw := gw_t 408 (by decide +kernel) rfl
set_option maxRecDepth 100000 in
theorem tw409 : (.code ⟨"FamilyChart$Family", "hasParents", "(I)Z"⟩ prog_3_method_13_code 2 (Option.some ClassFile.FieldType.boolean) : Cond) ∈ gw := gw_t 409 (by decide +kernel) rfl
set_option maxRecDepth 100000 in
theorem tw411 : (.methodLink "FamilyChart" 136 ⟨"FamilyChart$Family", "countWithoutChildren", "()I"⟩ : Cond) ∈ gw := gw_t 411 (by decide +kernel) rfl
set_option maxRecDepth 100000 in
theorem tw412 : (.instanceMethod ⟨"FamilyChart$Family", "countWithoutChildren", "()I"⟩ : Cond) ∈ gw := gw_t 412 (by decide +kernel) rfl
set_option maxRecDepth 100000 in
theorem tw413 : (.selects "FamilyChart$Family" ⟨"FamilyChart$Family", "countWithoutChildren", "()I"⟩ ⟨"FamilyChart$Family", "countWithoutChildren", "()I"⟩ : Cond) ∈ gw := gw_t 413 (by decide +kernel) rfl
set_option maxRecDepth 100000 in
theorem tw414 : (.code ⟨"FamilyChart$Family", "countWithoutChildren", "()I"⟩ prog_3_method_25_code 3 (Option.some ClassFile.FieldType.int) : Cond) ∈ gw := gw_t 414 (by decide +kernel) rfl
set_option maxRecDepth 100000 in
theorem tw415 : (.methodLink "FamilyChart$Family" 111 ⟨"FamilyChart$Family", "childMaskOfPerson", "(I)I"⟩ : Cond) ∈ gw := gw_t 415 (by decide +kernel) rfl
set_option maxRecDepth 100000 in
theorem tw416 : (.instanceMethod ⟨"FamilyChart$Family", "childMaskOfPerson", "(I)I"⟩ : Cond) ∈ gw := gw_t 416 (by decide +kernel) rfl
set_option maxRecDepth 100000 in
theorem tw417 : (.selects "FamilyChart$Family" ⟨"FamilyChart$Family", "childMaskOfPerson", "(I)I"⟩ ⟨"FamilyChart$Family", "childMaskOfPerson", "(I)I"⟩ : Cond) ∈ gw := gw_t 417 (by decide +kernel) rfl
set_option maxRecDepth 100000 in
theorem tw418 : (.code ⟨"FamilyChart$Family", "childMaskOfPerson", "(I)I"⟩ prog_3_method_21_code 4 (Option.some ClassFile.FieldType.int) : Cond) ∈ gw := gw_t 418 (by decide +kernel) rfl
set_option maxRecDepth 100000 in
theorem tw419 : (.methodLink "FamilyChart$Family" 104 ⟨"FamilyChart$Family", "isPartner", "(II)Z"⟩ : Cond) ∈ gw := gw_t 419 (by decide +kernel) rfl
set_option maxRecDepth 100000 in
theorem tw420 : (.instanceMethod ⟨"FamilyChart$Family", "isPartner", "(II)Z"⟩ : Cond) ∈ gw := gw_t 420 (by decide +kernel) rfl
set_option maxRecDepth 100000 in
theorem tw421 : (.selects "FamilyChart$Family" ⟨"FamilyChart$Family", "isPartner", "(II)Z"⟩ ⟨"FamilyChart$Family", "isPartner", "(II)Z"⟩ : Cond) ∈ gw := gw_t 421 (by decide +kernel) rfl
set_option maxRecDepth 100000 in
theorem tw422 : (.code ⟨"FamilyChart$Family", "isPartner", "(II)Z"⟩ prog_3_method_17_code 3 (Option.some ClassFile.FieldType.boolean) : Cond) ∈ gw := gw_t 422 (by decide +kernel) rfl
set_option maxRecDepth 100000 in
theorem tw423 : (.methodLink "FamilyChart$Family" 108 ⟨"FamilyChart$Family", "childMask", "(I)I"⟩ : Cond) ∈ gw := gw_t 423 (by decide +kernel) rfl
set_option maxRecDepth 100000 in
theorem tw424 : (.instanceMethod ⟨"FamilyChart$Family", "childMask", "(I)I"⟩ : Cond) ∈ gw := gw_t 424 (by decide +kernel) rfl
set_option maxRecDepth 100000 in
theorem tw425 : (.selects "FamilyChart$Family" ⟨"FamilyChart$Family", "childMask", "(I)I"⟩ ⟨"FamilyChart$Family", "childMask", "(I)I"⟩ : Cond) ∈ gw := gw_t 425 (by decide +kernel) rfl
set_option maxRecDepth 100000 in
theorem tw426 : (.code ⟨"FamilyChart$Family", "childMask", "(I)I"⟩ prog_3_method_20_code 4 (Option.some ClassFile.FieldType.int) : Cond) ∈ gw := gw_t 426 (by decide +kernel) rfl
set_option maxRecDepth 100000 in
theorem tw428 : (.static ⟨"FamilyChart", "bit", "(I)I"⟩ : Cond) ∈ gw := gw_t 428 (by decide +kernel) rfl
set_option maxRecDepth 100000 in
theorem tw429 : (.code ⟨"FamilyChart", "bit", "(I)I"⟩ prog_1_method_51_code 1 (Option.some ClassFile.FieldType.int) : Cond) ∈ gw := gw_t 429 (by decide +kernel) rfl
set_option maxRecDepth 100000 in
theorem tw430 : (.methodLink "FamilyChartLaw" 161 ⟨"FamilyChart", "crossings", "()I"⟩ : Cond) ∈ gw := gw_t 430 (by decide +kernel) rfl
set_option maxRecDepth 100000 in
theorem tw431 : (.instanceMethod ⟨"FamilyChart", "crossings", "()I"⟩ : Cond) ∈ gw := gw_t 431 (by decide +kernel) rfl
set_option maxRecDepth 100000 in
theorem tw432 : (.selects "FamilyChart" ⟨"FamilyChart", "crossings", "()I"⟩ ⟨"FamilyChart", "crossings", "()I"⟩ : Cond) ∈ gw := gw_t 432 (by decide +kernel) rfl
set_option maxRecDepth 100000 in
theorem tw433 : (.code ⟨"FamilyChart", "crossings", "()I"⟩ prog_1_method_19_code 1 (Option.some ClassFile.FieldType.int) : Cond) ∈ gw := gw_t 433 (by decide +kernel) rfl
set_option maxRecDepth 100000 in
theorem tw434 : (.methodLink "FamilyChart" 259 ⟨"FamilyChart$Rows", "countAllCrossings", "()I"⟩ : Cond) ∈ gw := gw_t 434 (by decide +kernel) rfl
set_option maxRecDepth 100000 in
theorem tw435 : (.instanceMethod ⟨"FamilyChart$Rows", "countAllCrossings", "()I"⟩ : Cond) ∈ gw := gw_t 435 (by decide +kernel) rfl
set_option maxRecDepth 100000 in
theorem tw436 : (.selects "FamilyChart$Rows" ⟨"FamilyChart$Rows", "countAllCrossings", "()I"⟩ ⟨"FamilyChart$Rows", "countAllCrossings", "()I"⟩ : Cond) ∈ gw := gw_t 436 (by decide +kernel) rfl
set_option maxRecDepth 100000 in
theorem tw437 : (.code ⟨"FamilyChart$Rows", "countAllCrossings", "()I"⟩ prog_9_method_14_code 3 (Option.some ClassFile.FieldType.int) : Cond) ∈ gw := gw_t 437 (by decide +kernel) rfl
set_option maxRecDepth 100000 in
theorem tw438 : (.methodLink "FamilyChart$Rows" 96 ⟨"FamilyChart$Rows", "countCrossingsIn", "(I)I"⟩ : Cond) ∈ gw := gw_t 438 (by decide +kernel) rfl
set_option maxRecDepth 100000 in
theorem tw439 : (.instanceMethod ⟨"FamilyChart$Rows", "countCrossingsIn", "(I)I"⟩ : Cond) ∈ gw := gw_t 439 (by decide +kernel) rfl
set_option maxRecDepth 100000 in
theorem tw440 : (.selects "FamilyChart$Rows" ⟨"FamilyChart$Rows", "countCrossingsIn", "(I)I"⟩ ⟨"FamilyChart$Rows", "countCrossingsIn", "(I)I"⟩ : Cond) ∈ gw := gw_t 440 (by decide +kernel) rfl
set_option maxRecDepth 100000 in
theorem tw441 : (.code ⟨"FamilyChart$Rows", "countCrossingsIn", "(I)I"⟩ prog_9_method_15_code 4 (Option.some ClassFile.FieldType.int) : Cond) ∈ gw := gw_t 441 (by decide +kernel) rfl
set_option maxRecDepth 100000 in
theorem tw442 : (.methodLink "FamilyChart$Rows" 102 ⟨"FamilyChart$Rows", "countCrossed", "(II)I"⟩ : Cond) ∈ gw := gw_t 442 (by decide +kernel) rfl
set_option maxRecDepth 100000 in
theorem tw444 : (.instanceMethod ⟨"FamilyChart$Rows", "countCrossed", "(II)I"⟩ : Cond) ∈ gw := gw_t 444 (by decide +kernel) rfl
set_option maxRecDepth 100000 in
theorem tw445 : (.code ⟨"FamilyChart$Rows", "countCrossed", "(II)I"⟩ prog_9_method_16_code 5 (Option.some ClassFile.FieldType.int) : Cond) ∈ gw := gw_t 445 (by decide +kernel) rfl
set_option maxRecDepth 100000 in
theorem tw446 : (.methodLink "FamilyChart$Rows" 105 ⟨"FamilyChart$Rows", "cross", "(II)Z"⟩ : Cond) ∈ gw := gw_t 446 (by decide +kernel) rfl
set_option maxRecDepth 100000 in
theorem tw448 : (.instanceMethod ⟨"FamilyChart$Rows", "cross", "(II)Z"⟩ : Cond) ∈ gw := gw_t 448 (by decide +kernel) rfl
set_option maxRecDepth 100000 in
theorem tw449 : (.code ⟨"FamilyChart$Rows", "cross", "(II)Z"⟩ prog_9_method_17_code 7 (Option.some ClassFile.FieldType.boolean) : Cond) ∈ gw := gw_t 449 (by decide +kernel) rfl
set_option maxRecDepth 100000 in
theorem tw450 : (.methodLink "FamilyChart$Rows" 109 ⟨"FamilyChart$Rows", "liesBetween", "(III)Z"⟩ : Cond) ∈ gw := gw_t 450 (by decide +kernel) rfl
set_option maxRecDepth 100000 in
theorem tw451 : (.static ⟨"FamilyChart$Rows", "liesBetween", "(III)Z"⟩ : Cond) ∈ gw := gw_t 451 (by decide +kernel) rfl
set_option maxRecDepth 100000 in
theorem tw452 : (.code ⟨"FamilyChart$Rows", "liesBetween", "(III)Z"⟩ prog_9_method_18_code 3 (Option.some ClassFile.FieldType.boolean) : Cond) ∈ gw := gw_t 452 (by decide +kernel) rfl
set_option maxRecDepth 100000 in
theorem tw453 : (.methodLink "FamilyChart$Rows" 113 ⟨"java/lang/Math", "min", "(II)I"⟩ : Cond) ∈ gw := gw_t 453 (by decide +kernel) rfl
set_option maxRecDepth 100000 in
theorem tw454 : (.static ⟨"java/lang/Math", "min", "(II)I"⟩ : Cond) ∈ gw := gw_t 454 (by decide +kernel) rfl
set_option maxRecDepth 100000 in
theorem tw455 : (.code ⟨"java/lang/Math", "min", "(II)I"⟩ prog_19_method_69_code 2 (Option.some ClassFile.FieldType.int) : Cond) ∈ gw := gw_t 455 (by decide +kernel) rfl
set_option maxRecDepth 100000 in
theorem tw456 : (.methodLink "FamilyChart$Rows" 118 ⟨"java/lang/Math", "max", "(II)I"⟩ : Cond) ∈ gw := gw_t 456 (by decide +kernel) rfl
set_option maxRecDepth 100000 in
theorem tw457 : (.static ⟨"java/lang/Math", "max", "(II)I"⟩ : Cond) ∈ gw := gw_t 457 (by decide +kernel) rfl
set_option maxRecDepth 100000 in
theorem tw458 : (.code ⟨"java/lang/Math", "max", "(II)I"⟩ prog_19_method_65_code 2 (Option.some ClassFile.FieldType.int) : Cond) ∈ gw := gw_t 458 (by decide +kernel) rfl
set_option maxRecDepth 100000 in
theorem tw459 : (.methodLink "FamilyChart$Rows" 99 ⟨"FamilyChart$Rows", "countCrossingsBelow", "(I)I"⟩ : Cond) ∈ gw := gw_t 459 (by decide +kernel) rfl
set_option maxRecDepth 100000 in
theorem tw460 : (.instanceMethod ⟨"FamilyChart$Rows", "countCrossingsBelow", "(I)I"⟩ : Cond) ∈ gw := gw_t 460 (by decide +kernel) rfl
set_option maxRecDepth 100000 in
theorem tw461 : (.selects "FamilyChart$Rows" ⟨"FamilyChart$Rows", "countCrossingsBelow", "(I)I"⟩ ⟨"FamilyChart$Rows", "countCrossingsBelow", "(I)I"⟩ : Cond) ∈ gw := gw_t 461 (by decide +kernel) rfl
set_option maxRecDepth 100000 in
theorem tw462 : (.code ⟨"FamilyChart$Rows", "countCrossingsBelow", "(I)I"⟩ prog_9_method_19_code 8 (Option.some ClassFile.FieldType.int) : Cond) ∈ gw := gw_t 462 (by decide +kernel) rfl
set_option maxRecDepth 100000 in
theorem tw463 : (.methodLink "FamilyChart$Rows" 79 ⟨"FamilyChart$Rows", "boxCountOf", "(I)I"⟩ : Cond) ∈ gw := gw_t 463 (by decide +kernel) rfl
set_option maxRecDepth 100000 in
theorem tw464 : (.instanceMethod ⟨"FamilyChart$Rows", "boxCountOf", "(I)I"⟩ : Cond) ∈ gw := gw_t 464 (by decide +kernel) rfl
set_option maxRecDepth 100000 in
theorem tw465 : (.selects "FamilyChart$Rows" ⟨"FamilyChart$Rows", "boxCountOf", "(I)I"⟩ ⟨"FamilyChart$Rows", "boxCountOf", "(I)I"⟩ : Cond) ∈ gw := gw_t 465 (by decide +kernel) rfl
set_option maxRecDepth 100000 in
theorem tw466 : (.code ⟨"FamilyChart$Rows", "boxCountOf", "(I)I"⟩ prog_9_method_9_code 2 (Option.some ClassFile.FieldType.int) : Cond) ∈ gw := gw_t 466 (by decide +kernel) rfl
set_option maxRecDepth 100000 in
theorem tw467 : (.methodLink "FamilyChart$Rows" 83 ⟨"FamilyChart$Rows", "boxAt", "(II)I"⟩ : Cond) ∈ gw := gw_t 467 (by decide +kernel) rfl
set_option maxRecDepth 100000 in
theorem tw468 : (.instanceMethod ⟨"FamilyChart$Rows", "boxAt", "(II)I"⟩ : Cond) ∈ gw := gw_t 468 (by decide +kernel) rfl
set_option maxRecDepth 100000 in
theorem tw469 : (.selects "FamilyChart$Rows" ⟨"FamilyChart$Rows", "boxAt", "(II)I"⟩ ⟨"FamilyChart$Rows", "boxAt", "(II)I"⟩ : Cond) ∈ gw := gw_t 469 (by decide +kernel) rfl
set_option maxRecDepth 100000 in
theorem tw470 : (.code ⟨"FamilyChart$Rows", "boxAt", "(II)I"⟩ prog_9_method_10_code 3 (Option.some ClassFile.FieldType.int) : Cond) ∈ gw := gw_t 470 (by decide +kernel) rfl
set_option maxRecDepth 100000 in
theorem tw471 : (.methodLink "FamilyChart$Rows" 121 ⟨"FamilyChart$Rows", "middleOfParents", "(I)I"⟩ : Cond) ∈ gw := gw_t 471 (by decide +kernel) rfl
set_option maxRecDepth 100000 in
theorem tw473 : (.instanceMethod ⟨"FamilyChart$Rows", "middleOfParents", "(I)I"⟩ : Cond) ∈ gw := gw_t 473 (by decide +kernel) rfl
set_option maxRecDepth 100000 in
theorem tw474 : (.code ⟨"FamilyChart$Rows", "middleOfParents", "(I)I"⟩ prog_9_method_20_code 2 (Option.some ClassFile.FieldType.int) : Cond) ∈ gw := gw_t 474 (by decide +kernel) rfl
set_option maxRecDepth 100000 in
theorem tw475 : (.methodLink "FamilyChart$Rows" 127 ⟨"FamilyChart$Rows", "middleOf", "(I)I"⟩ : Cond) ∈ gw := gw_t 475 (by decide +kernel) rfl
set_option maxRecDepth 100000 in
theorem tw476 : (.instanceMethod ⟨"FamilyChart$Rows", "middleOf", "(I)I"⟩ : Cond) ∈ gw := gw_t 476 (by decide +kernel) rfl
set_option maxRecDepth 100000 in
theorem tw477 : (.selects "FamilyChart$Rows" ⟨"FamilyChart$Rows", "middleOf", "(I)I"⟩ ⟨"FamilyChart$Rows", "middleOf", "(I)I"⟩ : Cond) ∈ gw := gw_t 477 (by decide +kernel) rfl
set_option maxRecDepth 100000 in
theorem tw478 : (.code ⟨"FamilyChart$Rows", "middleOf", "(I)I"⟩ prog_9_method_12_code 2 (Option.some ClassFile.FieldType.int) : Cond) ∈ gw := gw_t 478 (by decide +kernel) rfl
set_option maxRecDepth 100000 in
theorem tw479 : (.methodLink "FamilyChartLaw" 172 ⟨"FamilyChart", "width", "()I"⟩ : Cond) ∈ gw := gw_t 479 (by decide +kernel) rfl
set_option maxRecDepth 100000 in
theorem tw480 : (.instanceMethod ⟨"FamilyChart", "width", "()I"⟩ : Cond) ∈ gw := gw_t 480 (by decide +kernel) rfl
set_option maxRecDepth 100000 in
theorem tw481 : (.selects "FamilyChart" ⟨"FamilyChart", "width", "()I"⟩ ⟨"FamilyChart", "width", "()I"⟩ : Cond) ∈ gw := gw_t 481 (by decide +kernel) rfl
set_option maxRecDepth 100000 in
theorem tw482 : (.code ⟨"FamilyChart", "width", "()I"⟩ prog_1_method_22_code 1 (Option.some ClassFile.FieldType.int) : Cond) ∈ gw := gw_t 482 (by decide +kernel) rfl
set_option maxRecDepth 100000 in
theorem tw483 : (.methodLink "FamilyChart" 193 ⟨"FamilyChart$Columns", "layOut", "()V"⟩ : Cond) ∈ gw := gw_t 483 (by decide +kernel) rfl
set_option maxRecDepth 100000 in
theorem tw484 : (.instanceMethod ⟨"FamilyChart$Columns", "layOut", "()V"⟩ : Cond) ∈ gw := gw_t 484 (by decide +kernel) rfl
set_option maxRecDepth 100000 in
theorem tw485 : (.selects "FamilyChart$Columns" ⟨"FamilyChart$Columns", "layOut", "()V"⟩ ⟨"FamilyChart$Columns", "layOut", "()V"⟩ : Cond) ∈ gw := gw_t 485 (by decide +kernel) rfl
set_option maxRecDepth 100000 in
theorem tw486 : (.code ⟨"FamilyChart$Columns", "layOut", "()V"⟩ prog_2_method_2_code 6 (Option.none : Option ClassFile.FieldType) : Cond) ∈ gw := gw_t 486 (by decide +kernel) rfl
set_option maxRecDepth 100000 in
theorem tw487 : (.methodLink "FamilyChart$Columns" 32 ⟨"FamilyChart$Rows", "boxCountOf", "(I)I"⟩ : Cond) ∈ gw := gw_t 487 (by decide +kernel) rfl
set_option maxRecDepth 100000 in
theorem tw488 : (.methodLink "FamilyChart$Columns" 38 ⟨"FamilyChart$Rows", "boxAt", "(II)I"⟩ : Cond) ∈ gw := gw_t 488 (by decide +kernel) rfl
set_option maxRecDepth 100000 in
theorem tw489 : (.methodLink "FamilyChart$Columns" 42 ⟨"FamilyChart$Columns", "wantedColumn", "(I)I"⟩ : Cond) ∈ gw := gw_t 489 (by decide +kernel) rfl
set_option maxRecDepth 100000 in
theorem tw491 : (.instanceMethod ⟨"FamilyChart$Columns", "wantedColumn", "(I)I"⟩ : Cond) ∈ gw := gw_t 491 (by decide +kernel) rfl
set_option maxRecDepth 100000 in
theorem tw492 : (.code ⟨"FamilyChart$Columns", "wantedColumn", "(I)I"⟩ prog_2_method_3_code 2 (Option.some ClassFile.FieldType.int) : Cond) ∈ gw := gw_t 492 (by decide +kernel) rfl
set_option maxRecDepth 100000 in
theorem tw493 : (.methodLink "FamilyChart$Columns" 57 ⟨"FamilyChart$Family", "hasParents", "(I)Z"⟩ : Cond) ∈ gw := gw_t 493 (by decide +kernel) rfl
set_option maxRecDepth 100000 in
theorem tw495 : (.methodLink "FamilyChart$Columns" 68 ⟨"FamilyChart$Columns", "middleOfUnion", "(I)I"⟩ : Cond) ∈ gw := gw_t 495 (by decide +kernel) rfl
set_option maxRecDepth 100000 in
theorem tw496 : (.instanceMethod ⟨"FamilyChart$Columns", "middleOfUnion", "(I)I"⟩ : Cond) ∈ gw := gw_t 496 (by decide +kernel) rfl
set_option maxRecDepth 100000 in
theorem tw497 : (.selects "FamilyChart$Columns" ⟨"FamilyChart$Columns", "middleOfUnion", "(I)I"⟩ ⟨"FamilyChart$Columns", "middleOfUnion", "(I)I"⟩ : Cond) ∈ gw := gw_t 497 (by decide +kernel) rfl
set_option maxRecDepth 100000 in
theorem tw498 : (.code ⟨"FamilyChart$Columns", "middleOfUnion", "(I)I"⟩ prog_2_method_5_code 4 (Option.some ClassFile.FieldType.int) : Cond) ∈ gw := gw_t 498 (by decide +kernel) rfl
set_option maxRecDepth 100000 in
theorem tw499 : (.methodLink "FamilyChart$Columns" 54 ⟨"FamilyChart$Columns", "widthOf", "(I)I"⟩ : Cond) ∈ gw := gw_t 499 (by decide +kernel) rfl
set_option maxRecDepth 100000 in
theorem tw500 : (.instanceMethod ⟨"FamilyChart$Columns", "widthOf", "(I)I"⟩ : Cond) ∈ gw := gw_t 500 (by decide +kernel) rfl
set_option maxRecDepth 100000 in
theorem tw501 : (.selects "FamilyChart$Columns" ⟨"FamilyChart$Columns", "widthOf", "(I)I"⟩ ⟨"FamilyChart$Columns", "widthOf", "(I)I"⟩ : Cond) ∈ gw := gw_t 501 (by decide +kernel) rfl
set_option maxRecDepth 100000 in
theorem tw502 : (.code ⟨"FamilyChart$Columns", "widthOf", "(I)I"⟩ prog_2_method_4_code 2 (Option.some ClassFile.FieldType.int) : Cond) ∈ gw := gw_t 502 (by decide +kernel) rfl
set_option maxRecDepth 100000 in
theorem tw503 : (.methodLink "FamilyChart$Columns" 74 ⟨"FamilyChart$Rows", "personOf", "(I)I"⟩ : Cond) ∈ gw := gw_t 503 (by decide +kernel) rfl
set_option maxRecDepth 100000 in
theorem tw504 : (.instanceMethod ⟨"FamilyChart$Rows", "personOf", "(I)I"⟩ : Cond) ∈ gw := gw_t 504 (by decide +kernel) rfl
set_option maxRecDepth 100000 in
theorem tw505 : (.selects "FamilyChart$Rows" ⟨"FamilyChart$Rows", "personOf", "(I)I"⟩ ⟨"FamilyChart$Rows", "personOf", "(I)I"⟩ : Cond) ∈ gw := gw_t 505 (by decide +kernel) rfl
set_option maxRecDepth 100000 in
theorem tw506 : (.code ⟨"FamilyChart$Rows", "personOf", "(I)I"⟩ prog_9_method_11_code 2 (Option.some ClassFile.FieldType.int) : Cond) ∈ gw := gw_t 506 (by decide +kernel) rfl
set_option maxRecDepth 100000 in
theorem tw508 : (.static ⟨"FamilyChart", "unionOfReference", "(I)I"⟩ : Cond) ∈ gw := gw_t 508 (by decide +kernel) rfl
set_option maxRecDepth 100000 in
theorem tw509 : (.code ⟨"FamilyChart", "unionOfReference", "(I)I"⟩ prog_1_method_52_code 1 (Option.some ClassFile.FieldType.int) : Cond) ∈ gw := gw_t 509 (by decide +kernel) rfl
set_option maxRecDepth 100000 in
theorem tw510 : (.methodLink "FamilyChart$Columns" 45 ⟨"java/lang/Math", "max", "(II)I"⟩ : Cond) ∈ gw := gw_t 510 (by decide +kernel) rfl
set_option maxRecDepth 100000 in
theorem tw512 : (.methodLink "FamilyChart" 272 ⟨"FamilyChart$Printer", "widest", "()I"⟩ : Cond) ∈ gw := gw_t 512 (by decide +kernel) rfl
set_option maxRecDepth 100000 in
theorem tw513 : (.instanceMethod ⟨"FamilyChart$Printer", "widest", "()I"⟩ : Cond) ∈ gw := gw_t 513 (by decide +kernel) rfl
set_option maxRecDepth 100000 in
theorem tw514 : (.selects "FamilyChart$Printer" ⟨"FamilyChart$Printer", "widest", "()I"⟩ ⟨"FamilyChart$Printer", "widest", "()I"⟩ : Cond) ∈ gw := gw_t 514 (by decide +kernel) rfl
set_option maxRecDepth 100000 in
theorem tw515 : (.code ⟨"FamilyChart$Printer", "widest", "()I"⟩ prog_6_method_11_code 3 (Option.some ClassFile.FieldType.int) : Cond) ∈ gw := gw_t 515 (by decide +kernel) rfl
set_option maxRecDepth 100000 in
theorem tw516 : (.methodLink "FamilyChart$Printer" 130 ⟨"FamilyChart$Printer", "printLine", "(I)V"⟩ : Cond) ∈ gw := gw_t 516 (by decide +kernel) rfl
set_option maxRecDepth 100000 in
theorem tw517 : (.instanceMethod ⟨"FamilyChart$Printer", "printLine", "(I)V"⟩ : Cond) ∈ gw := gw_t 517 (by decide +kernel) rfl
set_option maxRecDepth 100000 in
theorem tw518 : (.selects "FamilyChart$Printer" ⟨"FamilyChart$Printer", "printLine", "(I)V"⟩ ⟨"FamilyChart$Printer", "printLine", "(I)V"⟩ : Cond) ∈ gw := gw_t 518 (by decide +kernel) rfl
set_option maxRecDepth 100000 in
theorem tw519 : (.code ⟨"FamilyChart$Printer", "printLine", "(I)V"⟩ prog_6_method_2_code 3 (Option.none : Option ClassFile.FieldType) : Cond) ∈ gw := gw_t 519 (by decide +kernel) rfl
set_option maxRecDepth 100000 in
theorem tw520 : (.methodLink "FamilyChart$Printer" 34 ⟨"FamilyChart$Printer", "clearLine", "()V"⟩ : Cond) ∈ gw := gw_t 520 (by decide +kernel) rfl
set_option maxRecDepth 100000 in
theorem tw522 : (.instanceMethod ⟨"FamilyChart$Printer", "clearLine", "()V"⟩ : Cond) ∈ gw := gw_t 522 (by decide +kernel) rfl
set_option maxRecDepth 100000 in
theorem tw523 : (.code ⟨"FamilyChart$Printer", "clearLine", "()V"⟩ prog_6_method_3_code 2 (Option.none : Option ClassFile.FieldType) : Cond) ∈ gw := gw_t 523 (by decide +kernel) rfl
set_option maxRecDepth 100000 in
theorem tw525 : (.methodLink "FamilyChart$Printer" 37 ⟨"FamilyChart$Printer", "printBoxes", "(I)V"⟩ : Cond) ∈ gw := gw_t 525 (by decide +kernel) rfl
set_option maxRecDepth 100000 in
theorem tw527 : (.instanceMethod ⟨"FamilyChart$Printer", "printBoxes", "(I)V"⟩ : Cond) ∈ gw := gw_t 527 (by decide +kernel) rfl
set_option maxRecDepth 100000 in
theorem tw528 : (.code ⟨"FamilyChart$Printer", "printBoxes", "(I)V"⟩ prog_6_method_5_code 3 (Option.none : Option ClassFile.FieldType) : Cond) ∈ gw := gw_t 528 (by decide +kernel) rfl
set_option maxRecDepth 100000 in
theorem tw529 : (.methodLink "FamilyChart$Printer" 60 ⟨"FamilyChart$Rows", "boxCountOf", "(I)I"⟩ : Cond) ∈ gw := gw_t 529 (by decide +kernel) rfl
set_option maxRecDepth 100000 in
theorem tw530 : (.methodLink "FamilyChart$Printer" 66 ⟨"FamilyChart$Rows", "boxAt", "(II)I"⟩ : Cond) ∈ gw := gw_t 530 (by decide +kernel) rfl
set_option maxRecDepth 100000 in
theorem tw531 : (.methodLink "FamilyChart$Printer" 69 ⟨"FamilyChart$Printer", "printBox", "(I)V"⟩ : Cond) ∈ gw := gw_t 531 (by decide +kernel) rfl
set_option maxRecDepth 100000 in
theorem tw533 : (.instanceMethod ⟨"FamilyChart$Printer", "printBox", "(I)V"⟩ : Cond) ∈ gw := gw_t 533 (by decide +kernel) rfl
set_option maxRecDepth 100000 in
theorem tw534 : (.code ⟨"FamilyChart$Printer", "printBox", "(I)V"⟩ prog_6_method_6_code 7 (Option.none : Option ClassFile.FieldType) : Cond) ∈ gw := gw_t 534 (by decide +kernel) rfl
set_option maxRecDepth 100000 in
theorem tw535 : (.methodLink "FamilyChart$Printer" 72 ⟨"FamilyChart$Rows", "personOf", "(I)I"⟩ : Cond) ∈ gw := gw_t 535 (by decide +kernel) rfl
set_option maxRecDepth 100000 in
theorem tw537 : (.methodLink "FamilyChart$Printer" 89 ⟨"FamilyChart$Printer", "printByte", "(II)V"⟩ : Cond) ∈ gw := gw_t 537 (by decide +kernel) rfl
set_option maxRecDepth 100000 in
theorem tw539 : (.instanceMethod ⟨"FamilyChart$Printer", "printByte", "(II)V"⟩ : Cond) ∈ gw := gw_t 539 (by decide +kernel) rfl
set_option maxRecDepth 100000 in
theorem tw540 : (.code ⟨"FamilyChart$Printer", "printByte", "(II)V"⟩ prog_6_method_4_code 3 (Option.none : Option ClassFile.FieldType) : Cond) ∈ gw := gw_t 540 (by decide +kernel) rfl
set_option maxRecDepth 100000 in
theorem tw541 : (.methodLink "FamilyChart$Printer" 51 ⟨"java/lang/Math", "min", "(II)I"⟩ : Cond) ∈ gw := gw_t 541 (by decide +kernel) rfl
set_option maxRecDepth 100000 in
theorem tw542 : (.methodLink "FamilyChart$Printer" 57 ⟨"java/lang/Math", "max", "(II)I"⟩ : Cond) ∈ gw := gw_t 542 (by decide +kernel) rfl
set_option maxRecDepth 100000 in
theorem tw543 : (.methodLink "FamilyChart$Printer" 41 ⟨"FamilyChart$Printer", "printUnionMarks", "(I)V"⟩ : Cond) ∈ gw := gw_t 543 (by decide +kernel) rfl
set_option maxRecDepth 100000 in
theorem tw545 : (.instanceMethod ⟨"FamilyChart$Printer", "printUnionMarks", "(I)V"⟩ : Cond) ∈ gw := gw_t 545 (by decide +kernel) rfl
set_option maxRecDepth 100000 in
theorem tw546 : (.code ⟨"FamilyChart$Printer", "printUnionMarks", "(I)V"⟩ prog_6_method_7_code 3 (Option.none : Option ClassFile.FieldType) : Cond) ∈ gw := gw_t 546 (by decide +kernel) rfl
set_option maxRecDepth 100000 in
theorem tw547 : (.methodLink "FamilyChart$Printer" 102 ⟨"FamilyChart$Columns", "middleOfUnion", "(I)I"⟩ : Cond) ∈ gw := gw_t 547 (by decide +kernel) rfl
set_option maxRecDepth 100000 in
theorem tw548 : (.methodLink "FamilyChart$Printer" 105 ⟨"FamilyChart$Printer", "freeColumn", "(I)I"⟩ : Cond) ∈ gw := gw_t 548 (by decide +kernel) rfl
set_option maxRecDepth 100000 in
theorem tw550 : (.instanceMethod ⟨"FamilyChart$Printer", "freeColumn", "(I)I"⟩ : Cond) ∈ gw := gw_t 550 (by decide +kernel) rfl
set_option maxRecDepth 100000 in
theorem tw551 : (.code ⟨"FamilyChart$Printer", "freeColumn", "(I)I"⟩ prog_6_method_8_code 3 (Option.some ClassFile.FieldType.int) : Cond) ∈ gw := gw_t 551 (by decide +kernel) rfl
set_option maxRecDepth 100000 in
theorem tw552 : (.methodLink "FamilyChart$Printer" 108 ⟨"FamilyChart$Printer", "markOf", "(I)I"⟩ : Cond) ∈ gw := gw_t 552 (by decide +kernel) rfl
set_option maxRecDepth 100000 in
theorem tw553 : (.static ⟨"FamilyChart$Printer", "markOf", "(I)I"⟩ : Cond) ∈ gw := gw_t 553 (by decide +kernel) rfl
set_option maxRecDepth 100000 in
theorem tw554 : (.code ⟨"FamilyChart$Printer", "markOf", "(I)I"⟩ prog_6_method_10_code 1 (Option.some ClassFile.FieldType.int) : Cond) ∈ gw := gw_t 554 (by decide +kernel) rfl
set_option maxRecDepth 100000 in
theorem tw555 : (.methodLink "FamilyChart$Printer" 44 ⟨"FamilyChart$Printer", "printPersonMarks", "(I)V"⟩ : Cond) ∈ gw := gw_t 555 (by decide +kernel) rfl
set_option maxRecDepth 100000 in
theorem tw557 : (.instanceMethod ⟨"FamilyChart$Printer", "printPersonMarks", "(I)V"⟩ : Cond) ∈ gw := gw_t 557 (by decide +kernel) rfl
set_option maxRecDepth 100000 in
theorem tw558 : (.code ⟨"FamilyChart$Printer", "printPersonMarks", "(I)V"⟩ prog_6_method_9_code 4 (Option.none : Option ClassFile.FieldType) : Cond) ∈ gw := gw_t 558 (by decide +kernel) rfl
set_option maxRecDepth 100000 in
theorem tw559 : (.methodLink "FamilyChart$Printer" 120 ⟨"FamilyChart$Family", "hasParents", "(I)Z"⟩ : Cond) ∈ gw := gw_t 559 (by decide +kernel) rfl
set_option maxRecDepth 100000 in
theorem tw560 : (.methodLink "FamilyChartLaw" 179 ⟨"FamilyChart", "formattedByte", "(I)I"⟩ : Cond) ∈ gw := gw_t 560 (by decide +kernel) rfl
set_option maxRecDepth 100000 in
theorem tw561 : (.instanceMethod ⟨"FamilyChart", "formattedByte", "(I)I"⟩ : Cond) ∈ gw := gw_t 561 (by decide +kernel) rfl
set_option maxRecDepth 100000 in
theorem tw562 : (.selects "FamilyChart" ⟨"FamilyChart", "formattedByte", "(I)I"⟩ ⟨"FamilyChart", "formattedByte", "(I)I"⟩ : Cond) ∈ gw := gw_t 562 (by decide +kernel) rfl
set_option maxRecDepth 100000 in
theorem tw563 : (.code ⟨"FamilyChart", "formattedByte", "(I)I"⟩ prog_1_method_24_code 2 (Option.some ClassFile.FieldType.int) : Cond) ∈ gw := gw_t 563 (by decide +kernel) rfl
set_option maxRecDepth 100000 in
theorem tw564 : (.methodLink "FamilyChart" 146 ⟨"FamilyChart", "at", "([II)I"⟩ : Cond) ∈ gw := gw_t 564 (by decide +kernel) rfl
set_option maxRecDepth 100000 in
theorem tw565 : (.methodLink "FamilyChartLaw" 189 ⟨"FamilyChart", "repeated", "()F"⟩ : Cond) ∈ gw := gw_t 565 (by decide +kernel) rfl
set_option maxRecDepth 100000 in
theorem tw566 : (.instanceMethod ⟨"FamilyChart", "repeated", "()F"⟩ : Cond) ∈ gw := gw_t 566 (by decide +kernel) rfl
set_option maxRecDepth 100000 in
theorem tw567 : (.selects "FamilyChart" ⟨"FamilyChart", "repeated", "()F"⟩ ⟨"FamilyChart", "repeated", "()F"⟩ : Cond) ∈ gw := gw_t 567 (by decide +kernel) rfl
set_option maxRecDepth 100000 in
theorem tw568 : (.code ⟨"FamilyChart", "repeated", "()F"⟩ prog_1_method_27_code 2 (Option.some ClassFile.FieldType.float) : Cond) ∈ gw := gw_t 568 (by decide +kernel) rfl
set_option maxRecDepth 100000 in
theorem tw569 : (.methodLink "FamilyChartLaw" 194 ⟨"FamilyChart", "inbreeding", "()D"⟩ : Cond) ∈ gw := gw_t 569 (by decide +kernel) rfl
set_option maxRecDepth 100000 in
theorem tw570 : (.instanceMethod ⟨"FamilyChart", "inbreeding", "()D"⟩ : Cond) ∈ gw := gw_t 570 (by decide +kernel) rfl
set_option maxRecDepth 100000 in
theorem tw571 : (.selects "FamilyChart" ⟨"FamilyChart", "inbreeding", "()D"⟩ ⟨"FamilyChart", "inbreeding", "()D"⟩ : Cond) ∈ gw := gw_t 571 (by decide +kernel) rfl
set_option maxRecDepth 100000 in
theorem tw572 : (.code ⟨"FamilyChart", "inbreeding", "()D"⟩ prog_1_method_28_code 1 (Option.some ClassFile.FieldType.double) : Cond) ∈ gw := gw_t 572 (by decide +kernel) rfl
set_option maxRecDepth 100000 in
theorem tw573 : (.methodLink "FamilyChart" 207 ⟨"FamilyChart$Relations", "noteKinships", "()V"⟩ : Cond) ∈ gw := gw_t 573 (by decide +kernel) rfl
set_option maxRecDepth 100000 in
theorem tw574 : (.instanceMethod ⟨"FamilyChart$Relations", "noteKinships", "()V"⟩ : Cond) ∈ gw := gw_t 574 (by decide +kernel) rfl
set_option maxRecDepth 100000 in
theorem tw575 : (.selects "FamilyChart$Relations" ⟨"FamilyChart$Relations", "noteKinships", "()V"⟩ ⟨"FamilyChart$Relations", "noteKinships", "()V"⟩ : Cond) ∈ gw := gw_t 575 (by decide +kernel) rfl
set_option maxRecDepth 100000 in
theorem tw576 : (.code ⟨"FamilyChart$Relations", "noteKinships", "()V"⟩ prog_8_method_4_code 3 (Option.none : Option ClassFile.FieldType) : Cond) ∈ gw := gw_t 576 (by decide +kernel) rfl
set_option maxRecDepth 100000 in
theorem tw578 : (.methodLink "FamilyChart$Relations" 42 ⟨"FamilyChart$Relations", "noteKinshipsOf", "(II)V"⟩ : Cond) ∈ gw := gw_t 578 (by decide +kernel) rfl
set_option maxRecDepth 100000 in
theorem tw580 : (.instanceMethod ⟨"FamilyChart$Relations", "noteKinshipsOf", "(II)V"⟩ : Cond) ∈ gw := gw_t 580 (by decide +kernel) rfl
set_option maxRecDepth 100000 in
theorem tw581 : (.code ⟨"FamilyChart$Relations", "noteKinshipsOf", "(II)V"⟩ prog_8_method_5_code 9 (Option.none : Option ClassFile.FieldType) : Cond) ∈ gw := gw_t 581 (by decide +kernel) rfl
set_option maxRecDepth 100000 in
theorem tw582 : (.methodLink "FamilyChart$Relations" 46 ⟨"FamilyChart$Family", "firstParent", "(I)I"⟩ : Cond) ∈ gw := gw_t 582 (by decide +kernel) rfl
set_option maxRecDepth 100000 in
theorem tw583 : (.instanceMethod ⟨"FamilyChart$Family", "firstParent", "(I)I"⟩ : Cond) ∈ gw := gw_t 583 (by decide +kernel) rfl
set_option maxRecDepth 100000 in
theorem tw584 : (.selects "FamilyChart$Family" ⟨"FamilyChart$Family", "firstParent", "(I)I"⟩ ⟨"FamilyChart$Family", "firstParent", "(I)I"⟩ : Cond) ∈ gw := gw_t 584 (by decide +kernel) rfl
set_option maxRecDepth 100000 in
theorem tw585 : (.code ⟨"FamilyChart$Family", "firstParent", "(I)I"⟩ prog_3_method_14_code 2 (Option.some ClassFile.FieldType.int) : Cond) ∈ gw := gw_t 585 (by decide +kernel) rfl
set_option maxRecDepth 100000 in
theorem tw586 : (.methodLink "FamilyChart$Relations" 50 ⟨"FamilyChart$Family", "secondParent", "(I)I"⟩ : Cond) ∈ gw := gw_t 586 (by decide +kernel) rfl
set_option maxRecDepth 100000 in
theorem tw587 : (.instanceMethod ⟨"FamilyChart$Family", "secondParent", "(I)I"⟩ : Cond) ∈ gw := gw_t 587 (by decide +kernel) rfl
set_option maxRecDepth 100000 in
theorem tw588 : (.selects "FamilyChart$Family" ⟨"FamilyChart$Family", "secondParent", "(I)I"⟩ ⟨"FamilyChart$Family", "secondParent", "(I)I"⟩ : Cond) ∈ gw := gw_t 588 (by decide +kernel) rfl
set_option maxRecDepth 100000 in
theorem tw589 : (.code ⟨"FamilyChart$Family", "secondParent", "(I)I"⟩ prog_3_method_15_code 2 (Option.some ClassFile.FieldType.int) : Cond) ∈ gw := gw_t 589 (by decide +kernel) rfl
set_option maxRecDepth 100000 in
theorem tw590 : (.methodLink "FamilyChart$Relations" 53 ⟨"FamilyChart$Relations", "kinshipOf", "(II)J"⟩ : Cond) ∈ gw := gw_t 590 (by decide +kernel) rfl
set_option maxRecDepth 100000 in
theorem tw591 : (.instanceMethod ⟨"FamilyChart$Relations", "kinshipOf", "(II)J"⟩ : Cond) ∈ gw := gw_t 591 (by decide +kernel) rfl
set_option maxRecDepth 100000 in
theorem tw592 : (.selects "FamilyChart$Relations" ⟨"FamilyChart$Relations", "kinshipOf", "(II)J"⟩ ⟨"FamilyChart$Relations", "kinshipOf", "(II)J"⟩ : Cond) ∈ gw := gw_t 592 (by decide +kernel) rfl
set_option maxRecDepth 100000 in
theorem tw593 : (.code ⟨"FamilyChart$Relations", "kinshipOf", "(II)J"⟩ prog_8_method_2_code 4 (Option.some ClassFile.FieldType.long) : Cond) ∈ gw := gw_t 593 (by decide +kernel) rfl
set_option maxRecDepth 100000 in
theorem tw594 : (.constantLong "FamilyChart$Relations" 57 (2 : Int64) : Cond) ∈ gw := gw_t 594 (by decide +kernel) rfl
set_option maxRecDepth 100000 in
theorem tw595 : (.methodLink "FamilyChart$Relations" 59 ⟨"FamilyChart$Relations", "putKinship", "(IIJ)V"⟩ : Cond) ∈ gw := gw_t 595 (by decide +kernel) rfl
set_option maxRecDepth 100000 in
theorem tw597 : (.instanceMethod ⟨"FamilyChart$Relations", "putKinship", "(IIJ)V"⟩ : Cond) ∈ gw := gw_t 597 (by decide +kernel) rfl
set_option maxRecDepth 100000 in
theorem tw598 : (.code ⟨"FamilyChart$Relations", "putKinship", "(IIJ)V"⟩ prog_8_method_3_code 6 (Option.none : Option ClassFile.FieldType) : Cond) ∈ gw := gw_t 598 (by decide +kernel) rfl
set_option maxRecDepth 100000 in
theorem tw599 : (.constantLong "FamilyChart$Relations" 63 (549755813888 : Int64) : Cond) ∈ gw := gw_t 599 (by decide +kernel) rfl
set_option maxRecDepth 100000 in
theorem tw600 : (.methodLink "FamilyChart" 296 ⟨"FamilyChart$Relations", "sumOfPartners", "()J"⟩ : Cond) ∈ gw := gw_t 600 (by decide +kernel) rfl
set_option maxRecDepth 100000 in
theorem tw601 : (.instanceMethod ⟨"FamilyChart$Relations", "sumOfPartners", "()J"⟩ : Cond) ∈ gw := gw_t 601 (by decide +kernel) rfl
set_option maxRecDepth 100000 in
theorem tw602 : (.selects "FamilyChart$Relations" ⟨"FamilyChart$Relations", "sumOfPartners", "()J"⟩ ⟨"FamilyChart$Relations", "sumOfPartners", "()J"⟩ : Cond) ∈ gw := gw_t 602 (by decide +kernel) rfl
set_option maxRecDepth 100000 in
theorem tw603 : (.code ⟨"FamilyChart$Relations", "sumOfPartners", "()J"⟩ prog_8_method_6_code 4 (Option.some ClassFile.FieldType.long) : Cond) ∈ gw := gw_t 603 (by decide +kernel) rfl
set_option maxRecDepth 100000 in
theorem tw604 : (.constantLong "FamilyChart" 300 (549755813888 : Int64) : Cond) ∈ gw := gw_t 604 (by decide +kernel) rfl
set_option maxRecDepth 100000 in
theorem tw605 : (.methodLink "FamilyChartLaw" 214 ⟨"FamilyChart", "arrange", "()I"⟩ : Cond) ∈ gw := gw_t 605 (by decide +kernel) rfl
set_option maxRecDepth 100000 in
theorem tw606 : (.instanceMethod ⟨"FamilyChart", "arrange", "()I"⟩ : Cond) ∈ gw := gw_t 606 (by decide +kernel) rfl
set_option maxRecDepth 100000 in
theorem tw607 : (.selects "FamilyChart" ⟨"FamilyChart", "arrange", "()I"⟩ ⟨"FamilyChart", "arrange", "()I"⟩ : Cond) ∈ gw := gw_t 607 (by decide +kernel) rfl
set_option maxRecDepth 100000 in
theorem tw608 : (.code ⟨"FamilyChart", "arrange", "()I"⟩ prog_1_method_34_code 1 (Option.some ClassFile.FieldType.int) : Cond) ∈ gw := gw_t 608 (by decide +kernel) rfl
set_option maxRecDepth 100000 in
theorem tw609 : (.methodLink "FamilyChart" 307 ⟨"FamilyChart$History", "record", "()V"⟩ : Cond) ∈ gw := gw_t 609 (by decide +kernel) rfl
set_option maxRecDepth 100000 in
theorem tw610 : (.instanceMethod ⟨"FamilyChart$History", "record", "()V"⟩ : Cond) ∈ gw := gw_t 610 (by decide +kernel) rfl
set_option maxRecDepth 100000 in
theorem tw611 : (.selects "FamilyChart$History" ⟨"FamilyChart$History", "record", "()V"⟩ ⟨"FamilyChart$History", "record", "()V"⟩ : Cond) ∈ gw := gw_t 611 (by decide +kernel) rfl
set_option maxRecDepth 100000 in
theorem tw612 : (.code ⟨"FamilyChart$History", "record", "()V"⟩ prog_4_method_3_code 1 (Option.none : Option ClassFile.FieldType) : Cond) ∈ gw := gw_t 612 (by decide +kernel) rfl
set_option maxRecDepth 100000 in
theorem tw613 : (.methodLink "FamilyChart$History" 34 ⟨"FamilyChart$History", "save", "(I)V"⟩ : Cond) ∈ gw := gw_t 613 (by decide +kernel) rfl
set_option maxRecDepth 100000 in
theorem tw615 : (.instanceMethod ⟨"FamilyChart$History", "save", "(I)V"⟩ : Cond) ∈ gw := gw_t 615 (by decide +kernel) rfl
set_option maxRecDepth 100000 in
theorem tw616 : (.code ⟨"FamilyChart$History", "save", "(I)V"⟩ prog_4_method_7_code 3 (Option.none : Option ClassFile.FieldType) : Cond) ∈ gw := gw_t 616 (by decide +kernel) rfl
set_option maxRecDepth 100000 in
theorem tw619 : (.static ⟨"FamilyChart", "copyCells", "([II[III)V"⟩ : Cond) ∈ gw := gw_t 619 (by decide +kernel) rfl
set_option maxRecDepth 100000 in
theorem tw620 : (.code ⟨"FamilyChart", "copyCells", "([II[III)V"⟩ prog_1_method_50_code 6 (Option.none : Option ClassFile.FieldType) : Cond) ∈ gw := gw_t 620 (by decide +kernel) rfl
set_option maxRecDepth 100000 in
theorem tw621 : (.methodLink "FamilyChart" 325 ⟨"FamilyChart", "put", "([III)V"⟩ : Cond) ∈ gw := gw_t 621 (by decide +kernel) rfl
set_option maxRecDepth 100000 in
theorem tw622 : (.methodLink "FamilyChart$History" 72 ⟨"FamilyChart$Rows", "saveOrder", "([II)V"⟩ : Cond) ∈ gw := gw_t 622 (by decide +kernel) rfl
set_option maxRecDepth 100000 in
theorem tw623 : (.instanceMethod ⟨"FamilyChart$Rows", "saveOrder", "([II)V"⟩ : Cond) ∈ gw := gw_t 623 (by decide +kernel) rfl
set_option maxRecDepth 100000 in
theorem tw624 : (.selects "FamilyChart$Rows" ⟨"FamilyChart$Rows", "saveOrder", "([II)V"⟩ ⟨"FamilyChart$Rows", "saveOrder", "([II)V"⟩ : Cond) ∈ gw := gw_t 624 (by decide +kernel) rfl
set_option maxRecDepth 100000 in
theorem tw625 : (.code ⟨"FamilyChart$Rows", "saveOrder", "([II)V"⟩ prog_9_method_6_code 3 (Option.none : Option ClassFile.FieldType) : Cond) ∈ gw := gw_t 625 (by decide +kernel) rfl
set_option maxRecDepth 100000 in
theorem tw627 : (.methodLink "FamilyChart$History" 38 ⟨"java/lang/Math", "min", "(II)I"⟩ : Cond) ∈ gw := gw_t 627 (by decide +kernel) rfl
set_option maxRecDepth 100000 in
theorem tw628 : (.methodLink "FamilyChart" 334 ⟨"FamilyChart$Rows", "sortByKeys", "()V"⟩ : Cond) ∈ gw := gw_t 628 (by decide +kernel) rfl
set_option maxRecDepth 100000 in
theorem tw629 : (.instanceMethod ⟨"FamilyChart$Rows", "sortByKeys", "()V"⟩ : Cond) ∈ gw := gw_t 629 (by decide +kernel) rfl
set_option maxRecDepth 100000 in
theorem tw630 : (.selects "FamilyChart$Rows" ⟨"FamilyChart$Rows", "sortByKeys", "()V"⟩ ⟨"FamilyChart$Rows", "sortByKeys", "()V"⟩ : Cond) ∈ gw := gw_t 630 (by decide +kernel) rfl
set_option maxRecDepth 100000 in
theorem tw631 : (.code ⟨"FamilyChart$Rows", "sortByKeys", "()V"⟩ prog_9_method_23_code 4 (Option.none : Option ClassFile.FieldType) : Cond) ∈ gw := gw_t 631 (by decide +kernel) rfl
set_option maxRecDepth 100000 in
theorem tw632 : (.methodLink "FamilyChart$Rows" 137 ⟨"FamilyChart$Rows", "keyOf", "(II)I"⟩ : Cond) ∈ gw := gw_t 632 (by decide +kernel) rfl
set_option maxRecDepth 100000 in
theorem tw634 : (.instanceMethod ⟨"FamilyChart$Rows", "keyOf", "(II)I"⟩ : Cond) ∈ gw := gw_t 634 (by decide +kernel) rfl
set_option maxRecDepth 100000 in
theorem tw635 : (.code ⟨"FamilyChart$Rows", "keyOf", "(II)I"⟩ prog_9_method_24_code 6 (Option.some ClassFile.FieldType.int) : Cond) ∈ gw := gw_t 635 (by decide +kernel) rfl
set_option maxRecDepth 100000 in
theorem tw636 : (.methodLink "FamilyChart$Rows" 144 ⟨"FamilyChart$Rows", "personOf", "(I)I"⟩ : Cond) ∈ gw := gw_t 636 (by decide +kernel) rfl
set_option maxRecDepth 100000 in
theorem tw637 : (.methodLink "FamilyChart$Rows" 147 ⟨"FamilyChart$Family", "otherPartner", "(II)I"⟩ : Cond) ∈ gw := gw_t 637 (by decide +kernel) rfl
set_option maxRecDepth 100000 in
theorem tw638 : (.instanceMethod ⟨"FamilyChart$Family", "otherPartner", "(II)I"⟩ : Cond) ∈ gw := gw_t 638 (by decide +kernel) rfl
set_option maxRecDepth 100000 in
theorem tw639 : (.selects "FamilyChart$Family" ⟨"FamilyChart$Family", "otherPartner", "(II)I"⟩ ⟨"FamilyChart$Family", "otherPartner", "(II)I"⟩ : Cond) ∈ gw := gw_t 639 (by decide +kernel) rfl
set_option maxRecDepth 100000 in
theorem tw640 : (.code ⟨"FamilyChart$Family", "otherPartner", "(II)I"⟩ prog_3_method_16_code 4 (Option.some ClassFile.FieldType.int) : Cond) ∈ gw := gw_t 640 (by decide +kernel) rfl
set_option maxRecDepth 100000 in
theorem tw641 : (.methodLink "FamilyChart$Rows" 150 ⟨"FamilyChart$Family", "hasParents", "(I)Z"⟩ : Cond) ∈ gw := gw_t 641 (by decide +kernel) rfl
set_option maxRecDepth 100000 in
theorem tw643 : (.methodLink "FamilyChart$Rows" 140 ⟨"FamilyChart$Rows", "sortRow", "(I)V"⟩ : Cond) ∈ gw := gw_t 643 (by decide +kernel) rfl
set_option maxRecDepth 100000 in
theorem tw645 : (.instanceMethod ⟨"FamilyChart$Rows", "sortRow", "(I)V"⟩ : Cond) ∈ gw := gw_t 645 (by decide +kernel) rfl
set_option maxRecDepth 100000 in
theorem tw646 : (.code ⟨"FamilyChart$Rows", "sortRow", "(I)V"⟩ prog_9_method_25_code 4 (Option.none : Option ClassFile.FieldType) : Cond) ∈ gw := gw_t 646 (by decide +kernel) rfl
set_option maxRecDepth 100000 in
theorem tw647 : (.methodLink "FamilyChart$Rows" 154 ⟨"FamilyChart$Rows", "keyAt", "(II)I"⟩ : Cond) ∈ gw := gw_t 647 (by decide +kernel) rfl
set_option maxRecDepth 100000 in
theorem tw649 : (.instanceMethod ⟨"FamilyChart$Rows", "keyAt", "(II)I"⟩ : Cond) ∈ gw := gw_t 649 (by decide +kernel) rfl
set_option maxRecDepth 100000 in
theorem tw650 : (.code ⟨"FamilyChart$Rows", "keyAt", "(II)I"⟩ prog_9_method_26_code 3 (Option.some ClassFile.FieldType.int) : Cond) ∈ gw := gw_t 650 (by decide +kernel) rfl
set_option maxRecDepth 100000 in
theorem tw651 : (.methodLink "FamilyChart$Rows" 133 ⟨"FamilyChart$Rows", "exchange", "(III)V"⟩ : Cond) ∈ gw := gw_t 651 (by decide +kernel) rfl
set_option maxRecDepth 100000 in
theorem tw652 : (.instanceMethod ⟨"FamilyChart$Rows", "exchange", "(III)V"⟩ : Cond) ∈ gw := gw_t 652 (by decide +kernel) rfl
set_option maxRecDepth 100000 in
theorem tw653 : (.selects "FamilyChart$Rows" ⟨"FamilyChart$Rows", "exchange", "(III)V"⟩ ⟨"FamilyChart$Rows", "exchange", "(III)V"⟩ : Cond) ∈ gw := gw_t 653 (by decide +kernel) rfl
set_option maxRecDepth 100000 in
theorem tw654 : (.code ⟨"FamilyChart$Rows", "exchange", "(III)V"⟩ prog_9_method_13_code 6 (Option.none : Option ClassFile.FieldType) : Cond) ∈ gw := gw_t 654 (by decide +kernel) rfl
set_option maxRecDepth 100000 in
theorem tw655 : (.methodLink "FamilyChartLaw" 218 ⟨"FamilyChart", "plain", "()V"⟩ : Cond) ∈ gw := gw_t 655 (by decide +kernel) rfl
set_option maxRecDepth 100000 in
theorem tw656 : (.instanceMethod ⟨"FamilyChart", "plain", "()V"⟩ : Cond) ∈ gw := gw_t 656 (by decide +kernel) rfl
set_option maxRecDepth 100000 in
theorem tw657 : (.selects "FamilyChart" ⟨"FamilyChart", "plain", "()V"⟩ ⟨"FamilyChart", "plain", "()V"⟩ : Cond) ∈ gw := gw_t 657 (by decide +kernel) rfl
set_option maxRecDepth 100000 in
theorem tw658 : (.code ⟨"FamilyChart", "plain", "()V"⟩ prog_1_method_35_code 1 (Option.none : Option ClassFile.FieldType) : Cond) ∈ gw := gw_t 658 (by decide +kernel) rfl
set_option maxRecDepth 100000 in
theorem tw659 : (.methodLink "FamilyChart" 111 ⟨"FamilyChart$Rows", "layPlain", "()V"⟩ : Cond) ∈ gw := gw_t 659 (by decide +kernel) rfl
set_option maxRecDepth 100000 in
theorem tw660 : (.instanceMethod ⟨"FamilyChart$Rows", "layPlain", "()V"⟩ : Cond) ∈ gw := gw_t 660 (by decide +kernel) rfl
set_option maxRecDepth 100000 in
theorem tw661 : (.selects "FamilyChart$Rows" ⟨"FamilyChart$Rows", "layPlain", "()V"⟩ ⟨"FamilyChart$Rows", "layPlain", "()V"⟩ : Cond) ∈ gw := gw_t 661 (by decide +kernel) rfl
set_option maxRecDepth 100000 in
theorem tw662 : (.code ⟨"FamilyChart$Rows", "layPlain", "()V"⟩ prog_9_method_2_code 3 (Option.none : Option ClassFile.FieldType) : Cond) ∈ gw := gw_t 662 (by decide +kernel) rfl
set_option maxRecDepth 100000 in
theorem tw663 : (.methodLink "FamilyChart$Rows" 34 ⟨"FamilyChart$Rows", "noteBoxesOfUnions", "()V"⟩ : Cond) ∈ gw := gw_t 663 (by decide +kernel) rfl
set_option maxRecDepth 100000 in
theorem tw665 : (.instanceMethod ⟨"FamilyChart$Rows", "noteBoxesOfUnions", "()V"⟩ : Cond) ∈ gw := gw_t 665 (by decide +kernel) rfl
set_option maxRecDepth 100000 in
theorem tw666 : (.code ⟨"FamilyChart$Rows", "noteBoxesOfUnions", "()V"⟩ prog_9_method_3_code 5 (Option.none : Option ClassFile.FieldType) : Cond) ∈ gw := gw_t 666 (by decide +kernel) rfl
set_option maxRecDepth 100000 in
theorem tw667 : (.methodLink "FamilyChart$Rows" 47 ⟨"FamilyChart$Rows", "layRow", "(II)I"⟩ : Cond) ∈ gw := gw_t 667 (by decide +kernel) rfl
set_option maxRecDepth 100000 in
theorem tw669 : (.instanceMethod ⟨"FamilyChart$Rows", "layRow", "(II)I"⟩ : Cond) ∈ gw := gw_t 669 (by decide +kernel) rfl
set_option maxRecDepth 100000 in
theorem tw670 : (.code ⟨"FamilyChart$Rows", "layRow", "(II)I"⟩ prog_9_method_4_code 5 (Option.some ClassFile.FieldType.int) : Cond) ∈ gw := gw_t 670 (by decide +kernel) rfl
set_option maxRecDepth 100000 in
theorem tw671 : (.methodLink "FamilyChart$Rows" 51 ⟨"FamilyChart$Rows", "notePlaces", "()V"⟩ : Cond) ∈ gw := gw_t 671 (by decide +kernel) rfl
set_option maxRecDepth 100000 in
theorem tw673 : (.instanceMethod ⟨"FamilyChart$Rows", "notePlaces", "()V"⟩ : Cond) ∈ gw := gw_t 673 (by decide +kernel) rfl
set_option maxRecDepth 100000 in
theorem tw674 : (.code ⟨"FamilyChart$Rows", "notePlaces", "()V"⟩ prog_9_method_5_code 3 (Option.none : Option ClassFile.FieldType) : Cond) ∈ gw := gw_t 674 (by decide +kernel) rfl
set_option maxRecDepth 100000 in
theorem tw675 : (.methodLink "FamilyChartLaw" 222 ⟨"FamilyChart", "undoCount", "()I"⟩ : Cond) ∈ gw := gw_t 675 (by decide +kernel) rfl
set_option maxRecDepth 100000 in
theorem tw676 : (.instanceMethod ⟨"FamilyChart", "undoCount", "()I"⟩ : Cond) ∈ gw := gw_t 676 (by decide +kernel) rfl
set_option maxRecDepth 100000 in
theorem tw677 : (.selects "FamilyChart" ⟨"FamilyChart", "undoCount", "()I"⟩ ⟨"FamilyChart", "undoCount", "()I"⟩ : Cond) ∈ gw := gw_t 677 (by decide +kernel) rfl
set_option maxRecDepth 100000 in
theorem tw678 : (.code ⟨"FamilyChart", "undoCount", "()I"⟩ prog_1_method_36_code 1 (Option.some ClassFile.FieldType.int) : Cond) ∈ gw := gw_t 678 (by decide +kernel) rfl
set_option maxRecDepth 100000 in
theorem tw679 : (.methodLink "FamilyChartLaw" 226 ⟨"FamilyChart", "undo", "()I"⟩ : Cond) ∈ gw := gw_t 679 (by decide +kernel) rfl
set_option maxRecDepth 100000 in
theorem tw680 : (.instanceMethod ⟨"FamilyChart", "undo", "()I"⟩ : Cond) ∈ gw := gw_t 680 (by decide +kernel) rfl
set_option maxRecDepth 100000 in
theorem tw681 : (.selects "FamilyChart" ⟨"FamilyChart", "undo", "()I"⟩ ⟨"FamilyChart", "undo", "()I"⟩ : Cond) ∈ gw := gw_t 681 (by decide +kernel) rfl
set_option maxRecDepth 100000 in
theorem tw682 : (.code ⟨"FamilyChart", "undo", "()I"⟩ prog_1_method_37_code 1 (Option.some ClassFile.FieldType.int) : Cond) ∈ gw := gw_t 682 (by decide +kernel) rfl
set_option maxRecDepth 100000 in
theorem tw683 : (.methodLink "FamilyChart" 340 ⟨"FamilyChart$History", "takeBack", "()V"⟩ : Cond) ∈ gw := gw_t 683 (by decide +kernel) rfl
set_option maxRecDepth 100000 in
theorem tw684 : (.instanceMethod ⟨"FamilyChart$History", "takeBack", "()V"⟩ : Cond) ∈ gw := gw_t 684 (by decide +kernel) rfl
set_option maxRecDepth 100000 in
theorem tw685 : (.selects "FamilyChart$History" ⟨"FamilyChart$History", "takeBack", "()V"⟩ ⟨"FamilyChart$History", "takeBack", "()V"⟩ : Cond) ∈ gw := gw_t 685 (by decide +kernel) rfl
set_option maxRecDepth 100000 in
theorem tw686 : (.code ⟨"FamilyChart$History", "takeBack", "()V"⟩ prog_4_method_4_code 1 (Option.none : Option ClassFile.FieldType) : Cond) ∈ gw := gw_t 686 (by decide +kernel) rfl
set_option maxRecDepth 100000 in
theorem tw687 : (.methodLink "FamilyChart$History" 44 ⟨"FamilyChart$History", "bring", "(I)V"⟩ : Cond) ∈ gw := gw_t 687 (by decide +kernel) rfl
set_option maxRecDepth 100000 in
theorem tw689 : (.instanceMethod ⟨"FamilyChart$History", "bring", "(I)V"⟩ : Cond) ∈ gw := gw_t 689 (by decide +kernel) rfl
set_option maxRecDepth 100000 in
theorem tw690 : (.code ⟨"FamilyChart$History", "bring", "(I)V"⟩ prog_4_method_8_code 3 (Option.none : Option ClassFile.FieldType) : Cond) ∈ gw := gw_t 690 (by decide +kernel) rfl
set_option maxRecDepth 100000 in
theorem tw692 : (.methodLink "FamilyChart$History" 82 ⟨"FamilyChart$Family", "refresh", "()V"⟩ : Cond) ∈ gw := gw_t 692 (by decide +kernel) rfl
set_option maxRecDepth 100000 in
theorem tw693 : (.instanceMethod ⟨"FamilyChart$Family", "refresh", "()V"⟩ : Cond) ∈ gw := gw_t 693 (by decide +kernel) rfl
set_option maxRecDepth 100000 in
theorem tw694 : (.selects "FamilyChart$Family" ⟨"FamilyChart$Family", "refresh", "()V"⟩ ⟨"FamilyChart$Family", "refresh", "()V"⟩ : Cond) ∈ gw := gw_t 694 (by decide +kernel) rfl
set_option maxRecDepth 100000 in
theorem tw695 : (.code ⟨"FamilyChart$Family", "refresh", "()V"⟩ prog_3_method_9_code 4 (Option.none : Option ClassFile.FieldType) : Cond) ∈ gw := gw_t 695 (by decide +kernel) rfl
set_option maxRecDepth 100000 in
theorem tw697 : (.static ⟨"FamilyChart", "fill", "([II)V"⟩ : Cond) ∈ gw := gw_t 697 (by decide +kernel) rfl
set_option maxRecDepth 100000 in
theorem tw698 : (.code ⟨"FamilyChart", "fill", "([II)V"⟩ prog_1_method_49_code 3 (Option.none : Option ClassFile.FieldType) : Cond) ∈ gw := gw_t 698 (by decide +kernel) rfl
set_option maxRecDepth 100000 in
theorem tw699 : (.methodLink "FamilyChart$Family" 71 ⟨"FamilyChart$Family", "passDown", "(I)Z"⟩ : Cond) ∈ gw := gw_t 699 (by decide +kernel) rfl
set_option maxRecDepth 100000 in
theorem tw701 : (.instanceMethod ⟨"FamilyChart$Family", "passDown", "(I)Z"⟩ : Cond) ∈ gw := gw_t 701 (by decide +kernel) rfl
set_option maxRecDepth 100000 in
theorem tw702 : (.code ⟨"FamilyChart$Family", "passDown", "(I)Z"⟩ prog_3_method_10_code 6 (Option.some ClassFile.FieldType.boolean) : Cond) ∈ gw := gw_t 702 (by decide +kernel) rfl
set_option maxRecDepth 100000 in
theorem tw703 : (.methodLink "FamilyChart$Family" 91 ⟨"FamilyChart$Family", "firstParent", "(I)I"⟩ : Cond) ∈ gw := gw_t 703 (by decide +kernel) rfl
set_option maxRecDepth 100000 in
theorem tw704 : (.methodLink "FamilyChart$Family" 95 ⟨"FamilyChart$Family", "secondParent", "(I)I"⟩ : Cond) ∈ gw := gw_t 704 (by decide +kernel) rfl
set_option maxRecDepth 100000 in
theorem tw705 : (.methodLink "FamilyChart$Family" 78 ⟨"java/lang/Math", "max", "(II)I"⟩ : Cond) ∈ gw := gw_t 705 (by decide +kernel) rfl
set_option maxRecDepth 100000 in
theorem tw706 : (.methodLink "FamilyChart$Family" 98 ⟨"FamilyChart$Family", "lineageMask", "(I)I"⟩ : Cond) ∈ gw := gw_t 706 (by decide +kernel) rfl
set_option maxRecDepth 100000 in
theorem tw707 : (.instanceMethod ⟨"FamilyChart$Family", "lineageMask", "(I)I"⟩ : Cond) ∈ gw := gw_t 707 (by decide +kernel) rfl
set_option maxRecDepth 100000 in
theorem tw708 : (.selects "FamilyChart$Family" ⟨"FamilyChart$Family", "lineageMask", "(I)I"⟩ ⟨"FamilyChart$Family", "lineageMask", "(I)I"⟩ : Cond) ∈ gw := gw_t 708 (by decide +kernel) rfl
set_option maxRecDepth 100000 in
theorem tw709 : (.code ⟨"FamilyChart$Family", "lineageMask", "(I)I"⟩ prog_3_method_12_code 2 (Option.some ClassFile.FieldType.int) : Cond) ∈ gw := gw_t 709 (by decide +kernel) rfl
set_option maxRecDepth 100000 in
theorem tw711 : (.methodLink "FamilyChart$Family" 84 ⟨"FamilyChart$Family", "noteLevel", "(I)V"⟩ : Cond) ∈ gw := gw_t 711 (by decide +kernel) rfl
set_option maxRecDepth 100000 in
theorem tw713 : (.instanceMethod ⟨"FamilyChart$Family", "noteLevel", "(I)V"⟩ : Cond) ∈ gw := gw_t 713 (by decide +kernel) rfl
set_option maxRecDepth 100000 in
theorem tw714 : (.code ⟨"FamilyChart$Family", "noteLevel", "(I)V"⟩ prog_3_method_11_code 5 (Option.none : Option ClassFile.FieldType) : Cond) ∈ gw := gw_t 714 (by decide +kernel) rfl
set_option maxRecDepth 100000 in
theorem tw715 : (.methodLink "FamilyChart$History" 85 ⟨"FamilyChart$Rows", "bringOrder", "([II)V"⟩ : Cond) ∈ gw := gw_t 715 (by decide +kernel) rfl
set_option maxRecDepth 100000 in
theorem tw716 : (.instanceMethod ⟨"FamilyChart$Rows", "bringOrder", "([II)V"⟩ : Cond) ∈ gw := gw_t 716 (by decide +kernel) rfl
set_option maxRecDepth 100000 in
theorem tw717 : (.selects "FamilyChart$Rows" ⟨"FamilyChart$Rows", "bringOrder", "([II)V"⟩ ⟨"FamilyChart$Rows", "bringOrder", "([II)V"⟩ : Cond) ∈ gw := gw_t 717 (by decide +kernel) rfl
set_option maxRecDepth 100000 in
theorem tw718 : (.code ⟨"FamilyChart$Rows", "bringOrder", "([II)V"⟩ prog_9_method_7_code 3 (Option.none : Option ClassFile.FieldType) : Cond) ∈ gw := gw_t 718 (by decide +kernel) rfl
set_option maxRecDepth 100000 in
theorem tw719 : (.methodLink "FamilyChart$Rows" 90 ⟨"FamilyChart$Rows", "layPlain", "()V"⟩ : Cond) ∈ gw := gw_t 719 (by decide +kernel) rfl
set_option maxRecDepth 100000 in
theorem tw720 : (.methodLink "FamilyChartLaw" 230 ⟨"FamilyChart", "saveSnapshot", "()V"⟩ : Cond) ∈ gw := gw_t 720 (by decide +kernel) rfl
set_option maxRecDepth 100000 in
theorem tw721 : (.instanceMethod ⟨"FamilyChart", "saveSnapshot", "()V"⟩ : Cond) ∈ gw := gw_t 721 (by decide +kernel) rfl
set_option maxRecDepth 100000 in
theorem tw722 : (.selects "FamilyChart" ⟨"FamilyChart", "saveSnapshot", "()V"⟩ ⟨"FamilyChart", "saveSnapshot", "()V"⟩ : Cond) ∈ gw := gw_t 722 (by decide +kernel) rfl
set_option maxRecDepth 100000 in
theorem tw723 : (.code ⟨"FamilyChart", "saveSnapshot", "()V"⟩ prog_1_method_38_code 1 (Option.none : Option ClassFile.FieldType) : Cond) ∈ gw := gw_t 723 (by decide +kernel) rfl
set_option maxRecDepth 100000 in
theorem tw724 : (.methodLink "FamilyChart" 343 ⟨"FamilyChart$History", "keepSnapshot", "()V"⟩ : Cond) ∈ gw := gw_t 724 (by decide +kernel) rfl
set_option maxRecDepth 100000 in
theorem tw725 : (.instanceMethod ⟨"FamilyChart$History", "keepSnapshot", "()V"⟩ : Cond) ∈ gw := gw_t 725 (by decide +kernel) rfl
set_option maxRecDepth 100000 in
theorem tw726 : (.selects "FamilyChart$History" ⟨"FamilyChart$History", "keepSnapshot", "()V"⟩ ⟨"FamilyChart$History", "keepSnapshot", "()V"⟩ : Cond) ∈ gw := gw_t 726 (by decide +kernel) rfl
set_option maxRecDepth 100000 in
theorem tw727 : (.code ⟨"FamilyChart$History", "keepSnapshot", "()V"⟩ prog_4_method_5_code 1 (Option.none : Option ClassFile.FieldType) : Cond) ∈ gw := gw_t 727 (by decide +kernel) rfl
set_option maxRecDepth 100000 in
theorem tw728 : (.methodLink "FamilyChartLaw" 234 ⟨"FamilyChart", "restoreSnapshot", "()Z"⟩ : Cond) ∈ gw := gw_t 728 (by decide +kernel) rfl
set_option maxRecDepth 100000 in
theorem tw729 : (.instanceMethod ⟨"FamilyChart", "restoreSnapshot", "()Z"⟩ : Cond) ∈ gw := gw_t 729 (by decide +kernel) rfl
set_option maxRecDepth 100000 in
theorem tw730 : (.selects "FamilyChart" ⟨"FamilyChart", "restoreSnapshot", "()Z"⟩ ⟨"FamilyChart", "restoreSnapshot", "()Z"⟩ : Cond) ∈ gw := gw_t 730 (by decide +kernel) rfl
set_option maxRecDepth 100000 in
theorem tw731 : (.code ⟨"FamilyChart", "restoreSnapshot", "()Z"⟩ prog_1_method_39_code 1 (Option.some ClassFile.FieldType.boolean) : Cond) ∈ gw := gw_t 731 (by decide +kernel) rfl
set_option maxRecDepth 100000 in
theorem tw732 : (.methodLink "FamilyChart" 350 ⟨"FamilyChart$History", "bringSnapshot", "()V"⟩ : Cond) ∈ gw := gw_t 732 (by decide +kernel) rfl
set_option maxRecDepth 100000 in
theorem tw733 : (.instanceMethod ⟨"FamilyChart$History", "bringSnapshot", "()V"⟩ : Cond) ∈ gw := gw_t 733 (by decide +kernel) rfl
set_option maxRecDepth 100000 in
theorem tw734 : (.selects "FamilyChart$History" ⟨"FamilyChart$History", "bringSnapshot", "()V"⟩ ⟨"FamilyChart$History", "bringSnapshot", "()V"⟩ : Cond) ∈ gw := gw_t 734 (by decide +kernel) rfl
set_option maxRecDepth 100000 in
theorem tw735 : (.code ⟨"FamilyChart$History", "bringSnapshot", "()V"⟩ prog_4_method_6_code 1 (Option.none : Option ClassFile.FieldType) : Cond) ∈ gw := gw_t 735 (by decide +kernel) rfl
set_option maxRecDepth 100000 in
theorem tw736 : (.methodLink "FamilyChartLaw" 102 ⟨"FamilyChartLaw", "load", "(LFamilyChart;I[J)I"⟩ : Cond) ∈ gw := gw_t 736 (by decide +kernel) rfl
set_option maxRecDepth 100000 in
theorem tw737 : (.static ⟨"FamilyChartLaw", "load", "(LFamilyChart;I[J)I"⟩ : Cond) ∈ gw := gw_t 737 (by decide +kernel) rfl
set_option maxRecDepth 100000 in
theorem tw739 : (.classLink "FamilyChartLaw" 13 "java/lang/IllegalArgumentException" : Cond) ∈ gw := gw_t 739 (by decide +kernel) rfl
set_option maxRecDepth 100000 in
theorem tw740 : (.methodLink "FamilyChartLaw" 7 ⟨"FamilyChart", "load", "(I)I"⟩ : Cond) ∈ gw := gw_t 740 (by decide +kernel) rfl
set_option maxRecDepth 100000 in
theorem tw741 : (.instanceMethod ⟨"FamilyChart", "load", "(I)I"⟩ : Cond) ∈ gw := gw_t 741 (by decide +kernel) rfl
set_option maxRecDepth 100000 in
theorem tw742 : (.selects "FamilyChart" ⟨"FamilyChart", "load", "(I)I"⟩ ⟨"FamilyChart", "load", "(I)I"⟩ : Cond) ∈ gw := gw_t 742 (by decide +kernel) rfl
set_option maxRecDepth 100000 in
theorem tw743 : (.code ⟨"FamilyChart", "load", "(I)I"⟩ prog_1_method_3_code 3 (Option.some ClassFile.FieldType.int) : Cond) ∈ gw := gw_t 743 (by decide +kernel) rfl
set_option maxRecDepth 100000 in
theorem tw744 : (.classLink "FamilyChart" 94 "java/lang/IllegalArgumentException" : Cond) ∈ gw := gw_t 744 (by decide +kernel) rfl
set_option maxRecDepth 100000 in
theorem tw745 : (.instantiable "java/lang/IllegalArgumentException" 6 : Cond) ∈ gw := gw_t 745 (by decide +kernel) rfl
set_option maxRecDepth 100000 in
theorem tw753 : (.selects "java/lang/IllegalArgumentException" ⟨"java/lang/Throwable", "fillInStackTrace", "(I)Ljava/lang/Throwable;"⟩ ⟨"java/lang/Throwable", "fillInStackTrace", "(I)Ljava/lang/Throwable;"⟩ : Cond) ∈ gw := gw_t 753 (by decide +kernel) rfl
set_option maxRecDepth 100000 in
theorem tw754 : (.selects "java/lang/IllegalArgumentException" ⟨"java/lang/Throwable", "fillInStackTrace", "()Ljava/lang/Throwable;"⟩ ⟨"java/lang/Throwable", "fillInStackTrace", "()Ljava/lang/Throwable;"⟩ : Cond) ∈ gw := gw_t 754 (by decide +kernel) rfl
set_option maxRecDepth 100000 in
theorem tw765 : (.fieldLink "java/lang/Throwable" 198 "java/lang/Throwable" "backtrace" "Ljava/lang/Object;" : Cond) ∈ gw := gw_t 765 (by decide +kernel) rfl
set_option maxRecDepth 100000 in
theorem tw767 : (.instanceMethod ⟨"java/lang/Throwable", "<init>", "()V"⟩ : Cond) ∈ gw := gw_t 767 (by decide +kernel) rfl
set_option maxRecDepth 100000 in
theorem tw768 : (.code ⟨"java/lang/Throwable", "<init>", "()V"⟩ prog_24_method_1_code 1 (Option.none : Option ClassFile.FieldType) : Cond) ∈ gw := gw_t 768 (by decide +kernel) rfl
set_option maxRecDepth 100000 in
theorem tw769 : (.methodLink "java/lang/Throwable" 1 ⟨"java/lang/Object", "<init>", "()V"⟩ : Cond) ∈ gw := gw_t 769 (by decide +kernel) rfl
set_option maxRecDepth 100000 in
theorem tw770 : (.fieldLink "java/lang/Throwable" 13 "java/lang/Throwable" "UNASSIGNED_STACK" "[Ljava/lang/StackTraceElement;" : Cond) ∈ gw := gw_t 770 (by decide +kernel) rfl
set_option maxRecDepth 100000 in
theorem tw772 : (.fieldLink "java/lang/Throwable" 20 "java/lang/Throwable" "SUPPRESSED_SENTINEL" "Ljava/util/List;" : Cond) ∈ gw := gw_t 772 (by decide +kernel) rfl
set_option maxRecDepth 100000 in
theorem tw774 : (.methodLink "java/lang/Throwable" 27 ⟨"java/lang/Throwable", "fillInStackTrace", "()Ljava/lang/Throwable;"⟩ : Cond) ∈ gw := gw_t 774 (by decide +kernel) rfl
set_option maxRecDepth 100000 in
theorem tw775 : (.instanceMethod ⟨"java/lang/Throwable", "fillInStackTrace", "()Ljava/lang/Throwable;"⟩ : Cond) ∈ gw := gw_t 775 (by decide +kernel) rfl
set_option maxRecDepth 100000 in
theorem tw777 : (.selects "java/util/NoSuchElementException" ⟨"java/lang/Throwable", "fillInStackTrace", "()Ljava/lang/Throwable;"⟩ ⟨"java/lang/Throwable", "fillInStackTrace", "()Ljava/lang/Throwable;"⟩ : Cond) ∈ gw := gw_t 777 (by decide +kernel) rfl
set_option maxRecDepth 100000 in
theorem tw779 : (.methodLink "java/lang/Throwable" 202 ⟨"java/lang/Throwable", "fillInStackTrace", "(I)Ljava/lang/Throwable;"⟩ : Cond) ∈ gw := gw_t 779 (by decide +kernel) rfl
set_option maxRecDepth 100000 in
theorem tw781 : (.instanceMethod ⟨"java/lang/Throwable", "fillInStackTrace", "(I)Ljava/lang/Throwable;"⟩ : Cond) ∈ gw := gw_t 781 (by decide +kernel) rfl
set_option maxRecDepth 100000 in
theorem tw782 : (.instantiable "java/lang/Throwable" 6 : Cond) ∈ gw := gw_t 782 (by decide +kernel) rfl
set_option maxRecDepth 100000 in
theorem tw785 : (.methodLink "FamilyChart" 98 ⟨"java/lang/IllegalArgumentException", "<init>", "(Ljava/lang/String;)V"⟩ : Cond) ∈ gw := gw_t 785 (by decide +kernel) rfl
set_option maxRecDepth 100000 in
theorem tw786 : (.instanceMethod ⟨"java/lang/IllegalArgumentException", "<init>", "(Ljava/lang/String;)V"⟩ : Cond) ∈ gw := gw_t 786 (by decide +kernel) rfl
set_option maxRecDepth 100000 in
theorem tw787 : (.code ⟨"java/lang/IllegalArgumentException", "<init>", "(Ljava/lang/String;)V"⟩ prog_17_method_2_code 2 (Option.none : Option ClassFile.FieldType) : Cond) ∈ gw := gw_t 787 (by decide +kernel) rfl
set_option maxRecDepth 100000 in
theorem tw788 : (.methodLink "java/lang/IllegalArgumentException" 7 ⟨"java/lang/RuntimeException", "<init>", "(Ljava/lang/String;)V"⟩ : Cond) ∈ gw := gw_t 788 (by decide +kernel) rfl
set_option maxRecDepth 100000 in
theorem tw789 : (.instanceMethod ⟨"java/lang/RuntimeException", "<init>", "(Ljava/lang/String;)V"⟩ : Cond) ∈ gw := gw_t 789 (by decide +kernel) rfl
set_option maxRecDepth 100000 in
theorem tw790 : (.code ⟨"java/lang/RuntimeException", "<init>", "(Ljava/lang/String;)V"⟩ prog_20_method_2_code 2 (Option.none : Option ClassFile.FieldType) : Cond) ∈ gw := gw_t 790 (by decide +kernel) rfl
set_option maxRecDepth 100000 in
theorem tw791 : (.methodLink "java/lang/RuntimeException" 7 ⟨"java/lang/Exception", "<init>", "(Ljava/lang/String;)V"⟩ : Cond) ∈ gw := gw_t 791 (by decide +kernel) rfl
set_option maxRecDepth 100000 in
theorem tw792 : (.instanceMethod ⟨"java/lang/Exception", "<init>", "(Ljava/lang/String;)V"⟩ : Cond) ∈ gw := gw_t 792 (by decide +kernel) rfl
set_option maxRecDepth 100000 in
theorem tw793 : (.code ⟨"java/lang/Exception", "<init>", "(Ljava/lang/String;)V"⟩ prog_16_method_2_code 2 (Option.none : Option ClassFile.FieldType) : Cond) ∈ gw := gw_t 793 (by decide +kernel) rfl
set_option maxRecDepth 100000 in
theorem tw794 : (.methodLink "java/lang/Exception" 7 ⟨"java/lang/Throwable", "<init>", "(Ljava/lang/String;)V"⟩ : Cond) ∈ gw := gw_t 794 (by decide +kernel) rfl
set_option maxRecDepth 100000 in
theorem tw795 : (.instanceMethod ⟨"java/lang/Throwable", "<init>", "(Ljava/lang/String;)V"⟩ : Cond) ∈ gw := gw_t 795 (by decide +kernel) rfl
set_option maxRecDepth 100000 in
theorem tw796 : (.code ⟨"java/lang/Throwable", "<init>", "(Ljava/lang/String;)V"⟩ prog_24_method_2_code 2 (Option.none : Option ClassFile.FieldType) : Cond) ∈ gw := gw_t 796 (by decide +kernel) rfl
set_option maxRecDepth 100000 in
theorem tw798 : (.fieldLink "java/lang/Throwable" 31 "java/lang/Throwable" "detailMessage" "Ljava/lang/String;" : Cond) ∈ gw := gw_t 798 (by decide +kernel) rfl
set_option maxRecDepth 100000 in
theorem tw799 : (.fieldLink "java/lang/Throwable" 7 "java/lang/Throwable" "cause" "Ljava/lang/Throwable;" : Cond) ∈ gw := gw_t 799 (by decide +kernel) rfl
set_option maxRecDepth 100000 in
theorem tw800 : (.fieldLink "java/lang/Throwable" 17 "java/lang/Throwable" "stackTrace" "[Ljava/lang/StackTraceElement;" : Cond) ∈ gw := gw_t 800 (by decide +kernel) rfl
set_option maxRecDepth 100000 in
theorem tw801 : (.fieldLink "java/lang/Throwable" 24 "java/lang/Throwable" "suppressedExceptions" "Ljava/util/List;" : Cond) ∈ gw := gw_t 801 (by decide +kernel) rfl
set_option maxRecDepth 100000 in
theorem tw810 : (.arrayClass ClassFile.FieldType.byte : Cond) ∈ gw := gw_t 810 (by decide +kernel) rfl
set_option maxRecDepth 100000 in
theorem tw811 : (.methodLink "FamilyChart" 101 ⟨"FamilyChart$TextReader", "read", "(I)I"⟩ : Cond) ∈ gw := gw_t 811 (by decide +kernel) rfl
set_option maxRecDepth 100000 in
theorem tw812 : (.instanceMethod ⟨"FamilyChart$TextReader", "read", "(I)I"⟩ : Cond) ∈ gw := gw_t 812 (by decide +kernel) rfl
set_option maxRecDepth 100000 in
theorem tw813 : (.selects "FamilyChart$TextReader" ⟨"FamilyChart$TextReader", "read", "(I)I"⟩ ⟨"FamilyChart$TextReader", "read", "(I)I"⟩ : Cond) ∈ gw := gw_t 813 (by decide +kernel) rfl
set_option maxRecDepth 100000 in
theorem tw814 : (.code ⟨"FamilyChart$TextReader", "read", "(I)I"⟩ prog_10_method_2_code 3 (Option.some ClassFile.FieldType.int) : Cond) ∈ gw := gw_t 814 (by decide +kernel) rfl
set_option maxRecDepth 100000 in
theorem tw815 : (.methodLink "FamilyChart$TextReader" 22 ⟨"FamilyChart$Family", "clear", "()V"⟩ : Cond) ∈ gw := gw_t 815 (by decide +kernel) rfl
set_option maxRecDepth 100000 in
theorem tw816 : (.instanceMethod ⟨"FamilyChart$Family", "clear", "()V"⟩ : Cond) ∈ gw := gw_t 816 (by decide +kernel) rfl
set_option maxRecDepth 100000 in
theorem tw817 : (.selects "FamilyChart$Family" ⟨"FamilyChart$Family", "clear", "()V"⟩ ⟨"FamilyChart$Family", "clear", "()V"⟩ : Cond) ∈ gw := gw_t 817 (by decide +kernel) rfl
set_option maxRecDepth 100000 in
theorem tw818 : (.code ⟨"FamilyChart$Family", "clear", "()V"⟩ prog_3_method_4_code 1 (Option.none : Option ClassFile.FieldType) : Cond) ∈ gw := gw_t 818 (by decide +kernel) rfl
set_option maxRecDepth 100000 in
theorem tw819 : (.methodLink "FamilyChart$Family" 52 ⟨"FamilyChart$Family", "refresh", "()V"⟩ : Cond) ∈ gw := gw_t 819 (by decide +kernel) rfl
set_option maxRecDepth 100000 in
theorem tw820 : (.methodLink "FamilyChart$TextReader" 25 ⟨"FamilyChart$Input", "open", "(I)V"⟩ : Cond) ∈ gw := gw_t 820 (by decide +kernel) rfl
set_option maxRecDepth 100000 in
theorem tw821 : (.instanceMethod ⟨"FamilyChart$Input", "open", "(I)V"⟩ : Cond) ∈ gw := gw_t 821 (by decide +kernel) rfl
set_option maxRecDepth 100000 in
theorem tw822 : (.selects "FamilyChart$Input" ⟨"FamilyChart$Input", "open", "(I)V"⟩ ⟨"FamilyChart$Input", "open", "(I)V"⟩ : Cond) ∈ gw := gw_t 822 (by decide +kernel) rfl
set_option maxRecDepth 100000 in
theorem tw823 : (.code ⟨"FamilyChart$Input", "open", "(I)V"⟩ prog_5_method_4_code 2 (Option.none : Option ClassFile.FieldType) : Cond) ∈ gw := gw_t 823 (by decide +kernel) rfl
set_option maxRecDepth 100000 in
theorem tw824 : (.methodLink "FamilyChart$Input" 35 ⟨"FamilyChart$Input", "advance", "()V"⟩ : Cond) ∈ gw := gw_t 824 (by decide +kernel) rfl
set_option maxRecDepth 100000 in
theorem tw825 : (.instanceMethod ⟨"FamilyChart$Input", "advance", "()V"⟩ : Cond) ∈ gw := gw_t 825 (by decide +kernel) rfl
set_option maxRecDepth 100000 in
theorem tw826 : (.selects "FamilyChart$Input" ⟨"FamilyChart$Input", "advance", "()V"⟩ ⟨"FamilyChart$Input", "advance", "()V"⟩ : Cond) ∈ gw := gw_t 826 (by decide +kernel) rfl
set_option maxRecDepth 100000 in
theorem tw827 : (.code ⟨"FamilyChart$Input", "advance", "()V"⟩ prog_5_method_5_code 1 (Option.none : Option ClassFile.FieldType) : Cond) ∈ gw := gw_t 827 (by decide +kernel) rfl
set_option maxRecDepth 100000 in
theorem tw828 : (.methodLink "FamilyChart$Input" 38 ⟨"FamilyChart$Input", "isFine", "()Z"⟩ : Cond) ∈ gw := gw_t 828 (by decide +kernel) rfl
set_option maxRecDepth 100000 in
theorem tw829 : (.instanceMethod ⟨"FamilyChart$Input", "isFine", "()Z"⟩ : Cond) ∈ gw := gw_t 829 (by decide +kernel) rfl
set_option maxRecDepth 100000 in
theorem tw830 : (.selects "FamilyChart$Input" ⟨"FamilyChart$Input", "isFine", "()Z"⟩ ⟨"FamilyChart$Input", "isFine", "()Z"⟩ : Cond) ∈ gw := gw_t 830 (by decide +kernel) rfl
set_option maxRecDepth 100000 in
theorem tw831 : (.code ⟨"FamilyChart$Input", "isFine", "()Z"⟩ prog_5_method_7_code 1 (Option.some ClassFile.FieldType.boolean) : Cond) ∈ gw := gw_t 831 (by decide +kernel) rfl
set_option maxRecDepth 100000 in
theorem tw833 : (.methodLink "FamilyChart$Input" 49 ⟨"FamilyChart$Input", "kindOf", "(I)I"⟩ : Cond) ∈ gw := gw_t 833 (by decide +kernel) rfl
set_option maxRecDepth 100000 in
theorem tw834 : (.static ⟨"FamilyChart$Input", "kindOf", "(I)I"⟩ : Cond) ∈ gw := gw_t 834 (by decide +kernel) rfl
set_option maxRecDepth 100000 in
theorem tw835 : (.code ⟨"FamilyChart$Input", "kindOf", "(I)I"⟩ prog_5_method_6_code 1 (Option.some ClassFile.FieldType.int) : Cond) ∈ gw := gw_t 835 (by decide +kernel) rfl
set_option maxRecDepth 100000 in
theorem tw836 : (.constant "FamilyChart$Input" 59 (1000000 : Int32) : Cond) ∈ gw := gw_t 836 (by decide +kernel) rfl
set_option maxRecDepth 100000 in
theorem tw837 : (.methodLink "FamilyChart$Input" 60 ⟨"java/lang/Math", "min", "(II)I"⟩ : Cond) ∈ gw := gw_t 837 (by decide +kernel) rfl
set_option maxRecDepth 100000 in
theorem tw838 : (.methodLink "FamilyChart$TextReader" 31 ⟨"FamilyChart$Input", "isFine", "()Z"⟩ : Cond) ∈ gw := gw_t 838 (by decide +kernel) rfl
set_option maxRecDepth 100000 in
theorem tw840 : (.methodLink "FamilyChart$TextReader" 41 ⟨"FamilyChart$Input", "isWord", "(Ljava/lang/String;)Z"⟩ : Cond) ∈ gw := gw_t 840 (by decide +kernel) rfl
set_option maxRecDepth 100000 in
theorem tw841 : (.instanceMethod ⟨"FamilyChart$Input", "isWord", "(Ljava/lang/String;)Z"⟩ : Cond) ∈ gw := gw_t 841 (by decide +kernel) rfl
set_option maxRecDepth 100000 in
theorem tw842 : (.selects "FamilyChart$Input" ⟨"FamilyChart$Input", "isWord", "(Ljava/lang/String;)Z"⟩ ⟨"FamilyChart$Input", "isWord", "(Ljava/lang/String;)Z"⟩ : Cond) ∈ gw := gw_t 842 (by decide +kernel) rfl
set_option maxRecDepth 100000 in
theorem tw843 : (.code ⟨"FamilyChart$Input", "isWord", "(Ljava/lang/String;)Z"⟩ prog_5_method_11_code 3 (Option.some ClassFile.FieldType.boolean) : Cond) ∈ gw := gw_t 843 (by decide +kernel) rfl
set_option maxRecDepth 100000 in
theorem tw844 : (.methodLink "FamilyChart$Input" 66 ⟨"java/lang/String", "length", "()I"⟩ : Cond) ∈ gw := gw_t 844 (by decide +kernel) rfl
set_option maxRecDepth 100000 in
theorem tw845 : (.instanceMethod ⟨"java/lang/String", "length", "()I"⟩ : Cond) ∈ gw := gw_t 845 (by decide +kernel) rfl
set_option maxRecDepth 100000 in
theorem tw846 : (.selects "java/lang/String" ⟨"java/lang/String", "length", "()I"⟩ ⟨"java/lang/String", "length", "()I"⟩ : Cond) ∈ gw := gw_t 846 (by decide +kernel) rfl
set_option maxRecDepth 100000 in
theorem tw847 : (.code ⟨"java/lang/String", "length", "()I"⟩ prog_21_method_54_code 1 (Option.some ClassFile.FieldType.int) : Cond) ∈ gw := gw_t 847 (by decide +kernel) rfl
set_option maxRecDepth 100000 in
theorem tw848 : (.methodLink "java/lang/String" 335 ⟨"java/lang/String", "coder", "()B"⟩ : Cond) ∈ gw := gw_t 848 (by decide +kernel) rfl
set_option maxRecDepth 100000 in
theorem tw849 : (.instanceMethod ⟨"java/lang/String", "coder", "()B"⟩ : Cond) ∈ gw := gw_t 849 (by decide +kernel) rfl
set_option maxRecDepth 100000 in
theorem tw850 : (.selects "java/lang/String" ⟨"java/lang/String", "coder", "()B"⟩ ⟨"java/lang/String", "coder", "()B"⟩ : Cond) ∈ gw := gw_t 850 (by decide +kernel) rfl
set_option maxRecDepth 100000 in
theorem tw851 : (.code ⟨"java/lang/String", "coder", "()B"⟩ prog_21_method_152_code 1 (Option.some ClassFile.FieldType.byte) : Cond) ∈ gw := gw_t 851 (by decide +kernel) rfl
set_option maxRecDepth 100000 in
theorem tw852 : (.fieldLink "java/lang/String" 38 "java/lang/String" "COMPACT_STRINGS" "Z" : Cond) ∈ gw := gw_t 852 (by decide +kernel) rfl
set_option maxRecDepth 100000 in
theorem tw854 : (.methodLink "FamilyChart$Input" 71 ⟨"java/lang/String", "charAt", "(I)C"⟩ : Cond) ∈ gw := gw_t 854 (by decide +kernel) rfl
set_option maxRecDepth 100000 in
theorem tw855 : (.instanceMethod ⟨"java/lang/String", "charAt", "(I)C"⟩ : Cond) ∈ gw := gw_t 855 (by decide +kernel) rfl
set_option maxRecDepth 100000 in
theorem tw856 : (.selects "java/lang/String" ⟨"java/lang/String", "charAt", "(I)C"⟩ ⟨"java/lang/String", "charAt", "(I)C"⟩ : Cond) ∈ gw := gw_t 856 (by decide +kernel) rfl
set_option maxRecDepth 100000 in
theorem tw857 : (.code ⟨"java/lang/String", "charAt", "(I)C"⟩ prog_21_method_56_code 2 (Option.some ClassFile.FieldType.char) : Cond) ∈ gw := gw_t 857 (by decide +kernel) rfl
set_option maxRecDepth 100000 in
theorem tw858 : (.methodLink "java/lang/String" 492 ⟨"java/lang/String", "isLatin1", "()Z"⟩ : Cond) ∈ gw := gw_t 858 (by decide +kernel) rfl
set_option maxRecDepth 100000 in
theorem tw859 : (.instanceMethod ⟨"java/lang/String", "isLatin1", "()Z"⟩ : Cond) ∈ gw := gw_t 859 (by decide +kernel) rfl
set_option maxRecDepth 100000 in
theorem tw860 : (.selects "java/lang/String" ⟨"java/lang/String", "isLatin1", "()Z"⟩ ⟨"java/lang/String", "isLatin1", "()Z"⟩ : Cond) ∈ gw := gw_t 860 (by decide +kernel) rfl
set_option maxRecDepth 100000 in
theorem tw861 : (.code ⟨"java/lang/String", "isLatin1", "()Z"⟩ prog_21_method_154_code 1 (Option.some ClassFile.FieldType.boolean) : Cond) ∈ gw := gw_t 861 (by decide +kernel) rfl
set_option maxRecDepth 100000 in
theorem tw862 : (.methodLink "java/lang/String" 495 ⟨"java/lang/StringLatin1", "charAt", "([BI)C"⟩ : Cond) ∈ gw := gw_t 862 (by decide +kernel) rfl
set_option maxRecDepth 100000 in
theorem tw863 : (.static ⟨"java/lang/StringLatin1", "charAt", "([BI)C"⟩ : Cond) ∈ gw := gw_t 863 (by decide +kernel) rfl
set_option maxRecDepth 100000 in
theorem tw864 : (.code ⟨"java/lang/StringLatin1", "charAt", "([BI)C"⟩ prog_22_method_2_code 2 (Option.some ClassFile.FieldType.char) : Cond) ∈ gw := gw_t 864 (by decide +kernel) rfl
set_option maxRecDepth 100000 in
theorem tw865 : (.methodLink "java/lang/StringLatin1" 9 ⟨"java/lang/String", "checkIndex", "(II)V"⟩ : Cond) ∈ gw := gw_t 865 (by decide +kernel) rfl
set_option maxRecDepth 100000 in
theorem tw866 : (.static ⟨"java/lang/String", "checkIndex", "(II)V"⟩ : Cond) ∈ gw := gw_t 866 (by decide +kernel) rfl
set_option maxRecDepth 100000 in
theorem tw867 : (.code ⟨"java/lang/String", "checkIndex", "(II)V"⟩ prog_21_method_155_code 2 (Option.none : Option ClassFile.FieldType) : Cond) ∈ gw := gw_t 867 (by decide +kernel) rfl
set_option maxRecDepth 100000 in
theorem tw868 : (.fieldLink "java/lang/String" 1053 "jdk/internal/util/Preconditions" "SIOOBE_FORMATTER" "Ljava/util/function/BiFunction;" : Cond) ∈ gw := gw_t 868 (by decide +kernel) rfl
set_option maxRecDepth 100000 in
theorem tw870 : (.methodLink "java/lang/String" 1059 ⟨"jdk/internal/util/Preconditions", "checkIndex", "(IILjava/util/function/BiFunction;)I"⟩ : Cond) ∈ gw := gw_t 870 (by decide +kernel) rfl
set_option maxRecDepth 100000 in
theorem tw871 : (.static ⟨"jdk/internal/util/Preconditions", "checkIndex", "(IILjava/util/function/BiFunction;)I"⟩ : Cond) ∈ gw := gw_t 871 (by decide +kernel) rfl
set_option maxRecDepth 100000 in
theorem tw872 : (.code ⟨"jdk/internal/util/Preconditions", "checkIndex", "(IILjava/util/function/BiFunction;)I"⟩ prog_28_method_11_code 3 (Option.some ClassFile.FieldType.int) : Cond) ∈ gw := gw_t 872 (by decide +kernel) rfl
set_option maxRecDepth 100000 in
theorem tw873 : (.methodLink "java/lang/String" 498 ⟨"java/lang/StringUTF16", "charAt", "([BI)C"⟩ : Cond) ∈ gw := gw_t 873 (by decide +kernel) rfl
set_option maxRecDepth 100000 in
theorem tw874 : (.static ⟨"java/lang/StringUTF16", "charAt", "([BI)C"⟩ : Cond) ∈ gw := gw_t 874 (by decide +kernel) rfl
set_option maxRecDepth 100000 in
theorem tw875 : (.code ⟨"java/lang/StringUTF16", "charAt", "([BI)C"⟩ prog_23_method_83_code 2 (Option.some ClassFile.FieldType.char) : Cond) ∈ gw := gw_t 875 (by decide +kernel) rfl
set_option maxRecDepth 100000 in
theorem tw876 : (.methodLink "java/lang/StringUTF16" 67 ⟨"java/lang/StringUTF16", "checkIndex", "(I[B)V"⟩ : Cond) ∈ gw := gw_t 876 (by decide +kernel) rfl
set_option maxRecDepth 100000 in
theorem tw877 : (.static ⟨"java/lang/StringUTF16", "checkIndex", "(I[B)V"⟩ : Cond) ∈ gw := gw_t 877 (by decide +kernel) rfl
set_option maxRecDepth 100000 in
theorem tw878 : (.code ⟨"java/lang/StringUTF16", "checkIndex", "(I[B)V"⟩ prog_23_method_91_code 2 (Option.none : Option ClassFile.FieldType) : Cond) ∈ gw := gw_t 878 (by decide +kernel) rfl
set_option maxRecDepth 100000 in
theorem tw879 : (.methodLink "java/lang/StringUTF16" 48 ⟨"java/lang/StringUTF16", "length", "([B)I"⟩ : Cond) ∈ gw := gw_t 879 (by decide +kernel) rfl
set_option maxRecDepth 100000 in
theorem tw880 : (.static ⟨"java/lang/StringUTF16", "length", "([B)I"⟩ : Cond) ∈ gw := gw_t 880 (by decide +kernel) rfl
set_option maxRecDepth 100000 in
theorem tw881 : (.code ⟨"java/lang/StringUTF16", "length", "([B)I"⟩ prog_23_method_6_code 1 (Option.some ClassFile.FieldType.int) : Cond) ∈ gw := gw_t 881 (by decide +kernel) rfl
set_option maxRecDepth 100000 in
theorem tw882 : (.methodLink "java/lang/StringUTF16" 414 ⟨"java/lang/String", "checkIndex", "(II)V"⟩ : Cond) ∈ gw := gw_t 882 (by decide +kernel) rfl
set_option maxRecDepth 100000 in
theorem tw883 : (.methodLink "java/lang/StringUTF16" 71 ⟨"java/lang/StringUTF16", "getChar", "([BI)C"⟩ : Cond) ∈ gw := gw_t 883 (by decide +kernel) rfl
set_option maxRecDepth 100000 in
theorem tw884 : (.static ⟨"java/lang/StringUTF16", "getChar", "([BI)C"⟩ : Cond) ∈ gw := gw_t 884 (by decide +kernel) rfl
set_option maxRecDepth 100000 in
theorem tw885 : (.code ⟨"java/lang/StringUTF16", "getChar", "([BI)C"⟩ prog_23_method_5_code 2 (Option.some ClassFile.FieldType.char) : Cond) ∈ gw := gw_t 885 (by decide +kernel) rfl
set_option maxRecDepth 100000 in
theorem tw886 : (.fieldLink "java/lang/StringUTF16" 44 "java/lang/StringUTF16" "$assertionsDisabled" "Z" : Cond) ∈ gw := gw_t 886 (by decide +kernel) rfl
set_option maxRecDepth 100000 in
theorem tw888 : (.fieldLink "java/lang/StringUTF16" 59 "java/lang/StringUTF16" "HI_BYTE_SHIFT" "I" : Cond) ∈ gw := gw_t 888 (by decide +kernel) rfl
set_option maxRecDepth 100000 in
theorem tw890 : (.fieldLink "java/lang/StringUTF16" 63 "java/lang/StringUTF16" "LO_BYTE_SHIFT" "I" : Cond) ∈ gw := gw_t 890 (by decide +kernel) rfl
set_option maxRecDepth 100000 in
theorem tw892 : (.methodLink "FamilyChart$TextReader" 45 ⟨"FamilyChart$TextReader", "readPerson", "()V"⟩ : Cond) ∈ gw := gw_t 892 (by decide +kernel) rfl
set_option maxRecDepth 100000 in
theorem tw894 : (.instanceMethod ⟨"FamilyChart$TextReader", "readPerson", "()V"⟩ : Cond) ∈ gw := gw_t 894 (by decide +kernel) rfl
set_option maxRecDepth 100000 in
theorem tw895 : (.code ⟨"FamilyChart$TextReader", "readPerson", "()V"⟩ prog_10_method_3_code 3 (Option.none : Option ClassFile.FieldType) : Cond) ∈ gw := gw_t 895 (by decide +kernel) rfl
set_option maxRecDepth 100000 in
theorem tw896 : (.methodLink "FamilyChart$TextReader" 53 ⟨"FamilyChart$Input", "fail", "(I)V"⟩ : Cond) ∈ gw := gw_t 896 (by decide +kernel) rfl
set_option maxRecDepth 100000 in
theorem tw897 : (.instanceMethod ⟨"FamilyChart$Input", "fail", "(I)V"⟩ : Cond) ∈ gw := gw_t 897 (by decide +kernel) rfl
set_option maxRecDepth 100000 in
theorem tw898 : (.selects "FamilyChart$Input" ⟨"FamilyChart$Input", "fail", "(I)V"⟩ ⟨"FamilyChart$Input", "fail", "(I)V"⟩ : Cond) ∈ gw := gw_t 898 (by decide +kernel) rfl
set_option maxRecDepth 100000 in
theorem tw899 : (.code ⟨"FamilyChart$Input", "fail", "(I)V"⟩ prog_5_method_8_code 2 (Option.none : Option ClassFile.FieldType) : Cond) ∈ gw := gw_t 899 (by decide +kernel) rfl
set_option maxRecDepth 100000 in
theorem tw900 : (.methodLink "FamilyChart$TextReader" 65 ⟨"FamilyChart$Input", "advance", "()V"⟩ : Cond) ∈ gw := gw_t 900 (by decide +kernel) rfl
set_option maxRecDepth 100000 in
theorem tw901 : (.methodLink "FamilyChart$TextReader" 68 ⟨"FamilyChart$TextReader", "checkNewName", "()V"⟩ : Cond) ∈ gw := gw_t 901 (by decide +kernel) rfl
set_option maxRecDepth 100000 in
theorem tw903 : (.instanceMethod ⟨"FamilyChart$TextReader", "checkNewName", "()V"⟩ : Cond) ∈ gw := gw_t 903 (by decide +kernel) rfl
set_option maxRecDepth 100000 in
theorem tw904 : (.code ⟨"FamilyChart$TextReader", "checkNewName", "()V"⟩ prog_10_method_4_code 1 (Option.none : Option ClassFile.FieldType) : Cond) ∈ gw := gw_t 904 (by decide +kernel) rfl
set_option maxRecDepth 100000 in
theorem tw905 : (.methodLink "FamilyChart$TextReader" 75 ⟨"FamilyChart$Input", "wordLength", "()I"⟩ : Cond) ∈ gw := gw_t 905 (by decide +kernel) rfl
set_option maxRecDepth 100000 in
theorem tw906 : (.instanceMethod ⟨"FamilyChart$Input", "wordLength", "()I"⟩ : Cond) ∈ gw := gw_t 906 (by decide +kernel) rfl
set_option maxRecDepth 100000 in
theorem tw907 : (.selects "FamilyChart$Input" ⟨"FamilyChart$Input", "wordLength", "()I"⟩ ⟨"FamilyChart$Input", "wordLength", "()I"⟩ : Cond) ∈ gw := gw_t 907 (by decide +kernel) rfl
set_option maxRecDepth 100000 in
theorem tw908 : (.code ⟨"FamilyChart$Input", "wordLength", "()I"⟩ prog_5_method_9_code 1 (Option.some ClassFile.FieldType.int) : Cond) ∈ gw := gw_t 908 (by decide +kernel) rfl
set_option maxRecDepth 100000 in
theorem tw909 : (.methodLink "FamilyChart$TextReader" 100 ⟨"FamilyChart$TextReader", "personNamed", "()I"⟩ : Cond) ∈ gw := gw_t 909 (by decide +kernel) rfl
set_option maxRecDepth 100000 in
theorem tw911 : (.instanceMethod ⟨"FamilyChart$TextReader", "personNamed", "()I"⟩ : Cond) ∈ gw := gw_t 911 (by decide +kernel) rfl
set_option maxRecDepth 100000 in
theorem tw912 : (.code ⟨"FamilyChart$TextReader", "personNamed", "()I"⟩ prog_10_method_9_code 2 (Option.some ClassFile.FieldType.int) : Cond) ∈ gw := gw_t 912 (by decide +kernel) rfl
set_option maxRecDepth 100000 in
theorem tw914 : (.methodLink "FamilyChart$TextReader" 144 ⟨"FamilyChart$Input", "isSpelled", "([III)Z"⟩ : Cond) ∈ gw := gw_t 914 (by decide +kernel) rfl
set_option maxRecDepth 100000 in
theorem tw915 : (.instanceMethod ⟨"FamilyChart$Input", "isSpelled", "([III)Z"⟩ : Cond) ∈ gw := gw_t 915 (by decide +kernel) rfl
set_option maxRecDepth 100000 in
theorem tw916 : (.selects "FamilyChart$Input" ⟨"FamilyChart$Input", "isSpelled", "([III)Z"⟩ ⟨"FamilyChart$Input", "isSpelled", "([III)Z"⟩ : Cond) ∈ gw := gw_t 916 (by decide +kernel) rfl
set_option maxRecDepth 100000 in
theorem tw917 : (.code ⟨"FamilyChart$Input", "isSpelled", "([III)Z"⟩ prog_5_method_12_code 5 (Option.some ClassFile.FieldType.boolean) : Cond) ∈ gw := gw_t 917 (by decide +kernel) rfl
set_option maxRecDepth 100000 in
theorem tw918 : (.methodLink "FamilyChart$TextReader" 71 ⟨"FamilyChart$Family", "addPerson", "()I"⟩ : Cond) ∈ gw := gw_t 918 (by decide +kernel) rfl
set_option maxRecDepth 100000 in
theorem tw919 : (.instanceMethod ⟨"FamilyChart$Family", "addPerson", "()I"⟩ : Cond) ∈ gw := gw_t 919 (by decide +kernel) rfl
set_option maxRecDepth 100000 in
theorem tw920 : (.selects "FamilyChart$Family" ⟨"FamilyChart$Family", "addPerson", "()I"⟩ ⟨"FamilyChart$Family", "addPerson", "()I"⟩ : Cond) ∈ gw := gw_t 920 (by decide +kernel) rfl
set_option maxRecDepth 100000 in
theorem tw921 : (.code ⟨"FamilyChart$Family", "addPerson", "()I"⟩ prog_3_method_5_code 2 (Option.some ClassFile.FieldType.int) : Cond) ∈ gw := gw_t 921 (by decide +kernel) rfl
set_option maxRecDepth 100000 in
theorem tw922 : (.methodLink "FamilyChart$TextReader" 78 ⟨"FamilyChart$Input", "letter", "(I)I"⟩ : Cond) ∈ gw := gw_t 922 (by decide +kernel) rfl
set_option maxRecDepth 100000 in
theorem tw923 : (.instanceMethod ⟨"FamilyChart$Input", "letter", "(I)I"⟩ : Cond) ∈ gw := gw_t 923 (by decide +kernel) rfl
set_option maxRecDepth 100000 in
theorem tw924 : (.selects "FamilyChart$Input" ⟨"FamilyChart$Input", "letter", "(I)I"⟩ ⟨"FamilyChart$Input", "letter", "(I)I"⟩ : Cond) ∈ gw := gw_t 924 (by decide +kernel) rfl
set_option maxRecDepth 100000 in
theorem tw925 : (.code ⟨"FamilyChart$Input", "letter", "(I)I"⟩ prog_5_method_10_code 2 (Option.some ClassFile.FieldType.int) : Cond) ∈ gw := gw_t 925 (by decide +kernel) rfl
set_option maxRecDepth 100000 in
theorem tw926 : (.methodLink "FamilyChart$TextReader" 82 ⟨"FamilyChart$Family", "addLetter", "(II)V"⟩ : Cond) ∈ gw := gw_t 926 (by decide +kernel) rfl
set_option maxRecDepth 100000 in
theorem tw927 : (.instanceMethod ⟨"FamilyChart$Family", "addLetter", "(II)V"⟩ : Cond) ∈ gw := gw_t 927 (by decide +kernel) rfl
set_option maxRecDepth 100000 in
theorem tw928 : (.selects "FamilyChart$Family" ⟨"FamilyChart$Family", "addLetter", "(II)V"⟩ ⟨"FamilyChart$Family", "addLetter", "(II)V"⟩ : Cond) ∈ gw := gw_t 928 (by decide +kernel) rfl
set_option maxRecDepth 100000 in
theorem tw929 : (.code ⟨"FamilyChart$Family", "addLetter", "(II)V"⟩ prog_3_method_6_code 4 (Option.none : Option ClassFile.FieldType) : Cond) ∈ gw := gw_t 929 (by decide +kernel) rfl
set_option maxRecDepth 100000 in
theorem tw930 : (.methodLink "FamilyChart$TextReader" 90 ⟨"FamilyChart$TextReader", "readYear", "()I"⟩ : Cond) ∈ gw := gw_t 930 (by decide +kernel) rfl
set_option maxRecDepth 100000 in
theorem tw932 : (.instanceMethod ⟨"FamilyChart$TextReader", "readYear", "()I"⟩ : Cond) ∈ gw := gw_t 932 (by decide +kernel) rfl
set_option maxRecDepth 100000 in
theorem tw933 : (.code ⟨"FamilyChart$TextReader", "readYear", "()I"⟩ prog_10_method_10_code 2 (Option.some ClassFile.FieldType.int) : Cond) ∈ gw := gw_t 933 (by decide +kernel) rfl
set_option maxRecDepth 100000 in
theorem tw935 : (.methodLink "FamilyChart$TextReader" 97 ⟨"FamilyChart$TextReader", "readSemicolon", "()V"⟩ : Cond) ∈ gw := gw_t 935 (by decide +kernel) rfl
set_option maxRecDepth 100000 in
theorem tw937 : (.instanceMethod ⟨"FamilyChart$TextReader", "readSemicolon", "()V"⟩ : Cond) ∈ gw := gw_t 937 (by decide +kernel) rfl
set_option maxRecDepth 100000 in
theorem tw938 : (.code ⟨"FamilyChart$TextReader", "readSemicolon", "()V"⟩ prog_10_method_11_code 1 (Option.none : Option ClassFile.FieldType) : Cond) ∈ gw := gw_t 938 (by decide +kernel) rfl
set_option maxRecDepth 100000 in
theorem tw939 : (.methodLink "FamilyChart$TextReader" 151 ⟨"FamilyChart$Input", "isSign", "(I)Z"⟩ : Cond) ∈ gw := gw_t 939 (by decide +kernel) rfl
set_option maxRecDepth 100000 in
theorem tw940 : (.instanceMethod ⟨"FamilyChart$Input", "isSign", "(I)Z"⟩ : Cond) ∈ gw := gw_t 940 (by decide +kernel) rfl
set_option maxRecDepth 100000 in
theorem tw941 : (.selects "FamilyChart$Input" ⟨"FamilyChart$Input", "isSign", "(I)Z"⟩ ⟨"FamilyChart$Input", "isSign", "(I)Z"⟩ : Cond) ∈ gw := gw_t 941 (by decide +kernel) rfl
set_option maxRecDepth 100000 in
theorem tw942 : (.code ⟨"FamilyChart$Input", "isSign", "(I)Z"⟩ prog_5_method_13_code 2 (Option.some ClassFile.FieldType.boolean) : Cond) ∈ gw := gw_t 942 (by decide +kernel) rfl
set_option maxRecDepth 100000 in
theorem tw944 : (.methodLink "FamilyChart$TextReader" 50 ⟨"FamilyChart$TextReader", "readUnion", "()V"⟩ : Cond) ∈ gw := gw_t 944 (by decide +kernel) rfl
set_option maxRecDepth 100000 in
theorem tw946 : (.instanceMethod ⟨"FamilyChart$TextReader", "readUnion", "()V"⟩ : Cond) ∈ gw := gw_t 946 (by decide +kernel) rfl
set_option maxRecDepth 100000 in
theorem tw947 : (.code ⟨"FamilyChart$TextReader", "readUnion", "()V"⟩ prog_10_method_5_code 6 (Option.none : Option ClassFile.FieldType) : Cond) ∈ gw := gw_t 947 (by decide +kernel) rfl
set_option maxRecDepth 100000 in
theorem tw948 : (.methodLink "FamilyChart$TextReader" 106 ⟨"FamilyChart$TextReader", "checkedPerson", "()I"⟩ : Cond) ∈ gw := gw_t 948 (by decide +kernel) rfl
set_option maxRecDepth 100000 in
theorem tw950 : (.instanceMethod ⟨"FamilyChart$TextReader", "checkedPerson", "()I"⟩ : Cond) ∈ gw := gw_t 950 (by decide +kernel) rfl
set_option maxRecDepth 100000 in
theorem tw951 : (.code ⟨"FamilyChart$TextReader", "checkedPerson", "()I"⟩ prog_10_method_8_code 2 (Option.some ClassFile.FieldType.int) : Cond) ∈ gw := gw_t 951 (by decide +kernel) rfl
set_option maxRecDepth 100000 in
theorem tw952 : (.methodLink "FamilyChart$TextReader" 109 ⟨"FamilyChart$TextReader", "checkPair", "(II)V"⟩ : Cond) ∈ gw := gw_t 952 (by decide +kernel) rfl
set_option maxRecDepth 100000 in
theorem tw954 : (.instanceMethod ⟨"FamilyChart$TextReader", "checkPair", "(II)V"⟩ : Cond) ∈ gw := gw_t 954 (by decide +kernel) rfl
set_option maxRecDepth 100000 in
theorem tw955 : (.code ⟨"FamilyChart$TextReader", "checkPair", "(II)V"⟩ prog_10_method_6_code 3 (Option.none : Option ClassFile.FieldType) : Cond) ∈ gw := gw_t 955 (by decide +kernel) rfl
set_option maxRecDepth 100000 in
theorem tw956 : (.methodLink "FamilyChart$TextReader" 119 ⟨"FamilyChart$Family", "unionOfPair", "(II)I"⟩ : Cond) ∈ gw := gw_t 956 (by decide +kernel) rfl
set_option maxRecDepth 100000 in
theorem tw957 : (.instanceMethod ⟨"FamilyChart$Family", "unionOfPair", "(II)I"⟩ : Cond) ∈ gw := gw_t 957 (by decide +kernel) rfl
set_option maxRecDepth 100000 in
theorem tw958 : (.selects "FamilyChart$Family" ⟨"FamilyChart$Family", "unionOfPair", "(II)I"⟩ ⟨"FamilyChart$Family", "unionOfPair", "(II)I"⟩ : Cond) ∈ gw := gw_t 958 (by decide +kernel) rfl
set_option maxRecDepth 100000 in
theorem tw959 : (.code ⟨"FamilyChart$Family", "unionOfPair", "(II)I"⟩ prog_3_method_18_code 4 (Option.some ClassFile.FieldType.int) : Cond) ∈ gw := gw_t 959 (by decide +kernel) rfl
set_option maxRecDepth 100000 in
theorem tw960 : (.methodLink "FamilyChart$TextReader" 112 ⟨"FamilyChart$Family", "addUnion", "(III)I"⟩ : Cond) ∈ gw := gw_t 960 (by decide +kernel) rfl
set_option maxRecDepth 100000 in
theorem tw961 : (.instanceMethod ⟨"FamilyChart$Family", "addUnion", "(III)I"⟩ : Cond) ∈ gw := gw_t 961 (by decide +kernel) rfl
set_option maxRecDepth 100000 in
theorem tw962 : (.selects "FamilyChart$Family" ⟨"FamilyChart$Family", "addUnion", "(III)I"⟩ ⟨"FamilyChart$Family", "addUnion", "(III)I"⟩ : Cond) ∈ gw := gw_t 962 (by decide +kernel) rfl
set_option maxRecDepth 100000 in
theorem tw963 : (.code ⟨"FamilyChart$Family", "addUnion", "(III)I"⟩ prog_3_method_7_code 5 (Option.some ClassFile.FieldType.int) : Cond) ∈ gw := gw_t 963 (by decide +kernel) rfl
set_option maxRecDepth 100000 in
theorem tw964 : (.methodLink "FamilyChart$TextReader" 116 ⟨"FamilyChart$TextReader", "readChild", "(I)V"⟩ : Cond) ∈ gw := gw_t 964 (by decide +kernel) rfl
set_option maxRecDepth 100000 in
theorem tw966 : (.instanceMethod ⟨"FamilyChart$TextReader", "readChild", "(I)V"⟩ : Cond) ∈ gw := gw_t 966 (by decide +kernel) rfl
set_option maxRecDepth 100000 in
theorem tw967 : (.code ⟨"FamilyChart$TextReader", "readChild", "(I)V"⟩ prog_10_method_7_code 3 (Option.none : Option ClassFile.FieldType) : Cond) ∈ gw := gw_t 967 (by decide +kernel) rfl
set_option maxRecDepth 100000 in
theorem tw968 : (.methodLink "FamilyChart$TextReader" 123 ⟨"FamilyChart$Family", "hasParents", "(I)Z"⟩ : Cond) ∈ gw := gw_t 968 (by decide +kernel) rfl
set_option maxRecDepth 100000 in
theorem tw969 : (.methodLink "FamilyChart$TextReader" 127 ⟨"FamilyChart$Family", "partnerOrAncestor", "(II)Z"⟩ : Cond) ∈ gw := gw_t 969 (by decide +kernel) rfl
set_option maxRecDepth 100000 in
theorem tw970 : (.instanceMethod ⟨"FamilyChart$Family", "partnerOrAncestor", "(II)Z"⟩ : Cond) ∈ gw := gw_t 970 (by decide +kernel) rfl
set_option maxRecDepth 100000 in
theorem tw971 : (.selects "FamilyChart$Family" ⟨"FamilyChart$Family", "partnerOrAncestor", "(II)Z"⟩ ⟨"FamilyChart$Family", "partnerOrAncestor", "(II)Z"⟩ : Cond) ∈ gw := gw_t 971 (by decide +kernel) rfl
set_option maxRecDepth 100000 in
theorem tw972 : (.code ⟨"FamilyChart$Family", "partnerOrAncestor", "(II)Z"⟩ prog_3_method_19_code 4 (Option.some ClassFile.FieldType.boolean) : Cond) ∈ gw := gw_t 972 (by decide +kernel) rfl
set_option maxRecDepth 100000 in
theorem tw973 : (.methodLink "FamilyChart$TextReader" 56 ⟨"FamilyChart$Family", "refresh", "()V"⟩ : Cond) ∈ gw := gw_t 973 (by decide +kernel) rfl
set_option maxRecDepth 100000 in
theorem tw974 : (.methodLink "FamilyChart" 108 ⟨"FamilyChart$Family", "copyFrom", "(LFamilyChart$Family;)V"⟩ : Cond) ∈ gw := gw_t 974 (by decide +kernel) rfl
set_option maxRecDepth 100000 in
theorem tw975 : (.instanceMethod ⟨"FamilyChart$Family", "copyFrom", "(LFamilyChart$Family;)V"⟩ : Cond) ∈ gw := gw_t 975 (by decide +kernel) rfl
set_option maxRecDepth 100000 in
theorem tw976 : (.selects "FamilyChart$Family" ⟨"FamilyChart$Family", "copyFrom", "(LFamilyChart$Family;)V"⟩ ⟨"FamilyChart$Family", "copyFrom", "(LFamilyChart$Family;)V"⟩ : Cond) ∈ gw := gw_t 976 (by decide +kernel) rfl
set_option maxRecDepth 100000 in
theorem tw977 : (.code ⟨"FamilyChart$Family", "copyFrom", "(LFamilyChart$Family;)V"⟩ prog_3_method_8_code 2 (Option.none : Option ClassFile.FieldType) : Cond) ∈ gw := gw_t 977 (by decide +kernel) rfl
set_option maxRecDepth 100000 in
theorem tw979 : (.methodLink "FamilyChart" 114 ⟨"FamilyChart$History", "forgetAll", "()V"⟩ : Cond) ∈ gw := gw_t 979 (by decide +kernel) rfl
set_option maxRecDepth 100000 in
theorem tw980 : (.instanceMethod ⟨"FamilyChart$History", "forgetAll", "()V"⟩ : Cond) ∈ gw := gw_t 980 (by decide +kernel) rfl
set_option maxRecDepth 100000 in
theorem tw981 : (.selects "FamilyChart$History" ⟨"FamilyChart$History", "forgetAll", "()V"⟩ ⟨"FamilyChart$History", "forgetAll", "()V"⟩ : Cond) ∈ gw := gw_t 981 (by decide +kernel) rfl
set_option maxRecDepth 100000 in
theorem tw982 : (.code ⟨"FamilyChart$History", "forgetAll", "()V"⟩ prog_4_method_2_code 1 (Option.none : Option ClassFile.FieldType) : Cond) ∈ gw := gw_t 982 (by decide +kernel) rfl
set_option maxRecDepth 100000 in
theorem tw983 : (.methodLink "FamilyChartLaw" 120 ⟨"FamilyChartLaw", "person", "(LFamilyChart;II[J)I"⟩ : Cond) ∈ gw := gw_t 983 (by decide +kernel) rfl
set_option maxRecDepth 100000 in
theorem tw984 : (.static ⟨"FamilyChartLaw", "person", "(LFamilyChart;II[J)I"⟩ : Cond) ∈ gw := gw_t 984 (by decide +kernel) rfl
set_option maxRecDepth 100000 in
theorem tw986 : (.classLink "FamilyChartLaw" 19 "java/util/NoSuchElementException" : Cond) ∈ gw := gw_t 986 (by decide +kernel) rfl
set_option maxRecDepth 100000 in
theorem tw987 : (.methodLink "FamilyChartLaw" 15 ⟨"FamilyChart", "person", "(II)I"⟩ : Cond) ∈ gw := gw_t 987 (by decide +kernel) rfl
set_option maxRecDepth 100000 in
theorem tw988 : (.instanceMethod ⟨"FamilyChart", "person", "(II)I"⟩ : Cond) ∈ gw := gw_t 988 (by decide +kernel) rfl
set_option maxRecDepth 100000 in
theorem tw989 : (.selects "FamilyChart" ⟨"FamilyChart", "person", "(II)I"⟩ ⟨"FamilyChart", "person", "(II)I"⟩ : Cond) ∈ gw := gw_t 989 (by decide +kernel) rfl
set_option maxRecDepth 100000 in
theorem tw990 : (.code ⟨"FamilyChart", "person", "(II)I"⟩ prog_1_method_6_code 3 (Option.some ClassFile.FieldType.int) : Cond) ∈ gw := gw_t 990 (by decide +kernel) rfl
set_option maxRecDepth 100000 in
theorem tw991 : (.methodLink "FamilyChart" 139 ⟨"FamilyChart", "requirePerson", "(I)V"⟩ : Cond) ∈ gw := gw_t 991 (by decide +kernel) rfl
set_option maxRecDepth 100000 in
theorem tw993 : (.instanceMethod ⟨"FamilyChart", "requirePerson", "(I)V"⟩ : Cond) ∈ gw := gw_t 993 (by decide +kernel) rfl
set_option maxRecDepth 100000 in
theorem tw994 : (.code ⟨"FamilyChart", "requirePerson", "(I)V"⟩ prog_1_method_42_code 2 (Option.none : Option ClassFile.FieldType) : Cond) ∈ gw := gw_t 994 (by decide +kernel) rfl
set_option maxRecDepth 100000 in
theorem tw995 : (.methodLink "FamilyChart" 359 ⟨"FamilyChart$Family", "hasPerson", "(I)Z"⟩ : Cond) ∈ gw := gw_t 995 (by decide +kernel) rfl
set_option maxRecDepth 100000 in
theorem tw996 : (.instanceMethod ⟨"FamilyChart$Family", "hasPerson", "(I)Z"⟩ : Cond) ∈ gw := gw_t 996 (by decide +kernel) rfl
set_option maxRecDepth 100000 in
theorem tw997 : (.selects "FamilyChart$Family" ⟨"FamilyChart$Family", "hasPerson", "(I)Z"⟩ ⟨"FamilyChart$Family", "hasPerson", "(I)Z"⟩ : Cond) ∈ gw := gw_t 997 (by decide +kernel) rfl
set_option maxRecDepth 100000 in
theorem tw998 : (.code ⟨"FamilyChart$Family", "hasPerson", "(I)Z"⟩ prog_3_method_2_code 2 (Option.some ClassFile.FieldType.boolean) : Cond) ∈ gw := gw_t 998 (by decide +kernel) rfl
set_option maxRecDepth 100000 in
theorem tw999 : (.classLink "FamilyChart" 162 "java/util/NoSuchElementException" : Cond) ∈ gw := gw_t 999 (by decide +kernel) rfl
set_option maxRecDepth 100000 in
theorem tw1000 : (.instantiable "java/util/NoSuchElementException" 6 : Cond) ∈ gw := gw_t 1000 (by decide +kernel) rfl
set_option maxRecDepth 100000 in
theorem tw1002 : (.selects "java/util/NoSuchElementException" ⟨"java/lang/Throwable", "fillInStackTrace", "(I)Ljava/lang/Throwable;"⟩ ⟨"java/lang/Throwable", "fillInStackTrace", "(I)Ljava/lang/Throwable;"⟩ : Cond) ∈ gw := gw_t 1002 (by decide +kernel) rfl
set_option maxRecDepth 100000 in
theorem tw1009 : (.methodLink "FamilyChart" 166 ⟨"java/util/NoSuchElementException", "<init>", "(Ljava/lang/String;)V"⟩ : Cond) ∈ gw := gw_t 1009 (by decide +kernel) rfl
set_option maxRecDepth 100000 in
theorem tw1010 : (.instanceMethod ⟨"java/util/NoSuchElementException", "<init>", "(Ljava/lang/String;)V"⟩ : Cond) ∈ gw := gw_t 1010 (by decide +kernel) rfl
set_option maxRecDepth 100000 in
theorem tw1011 : (.code ⟨"java/util/NoSuchElementException", "<init>", "(Ljava/lang/String;)V"⟩ prog_27_method_4_code 2 (Option.none : Option ClassFile.FieldType) : Cond) ∈ gw := gw_t 1011 (by decide +kernel) rfl
set_option maxRecDepth 100000 in
theorem tw1012 : (.methodLink "java/util/NoSuchElementException" 13 ⟨"java/lang/RuntimeException", "<init>", "(Ljava/lang/String;)V"⟩ : Cond) ∈ gw := gw_t 1012 (by decide +kernel) rfl
set_option maxRecDepth 100000 in
theorem tw1015 : (.methodLink "FamilyChart" 156 ⟨"FamilyChart$Family", "countUnionsOf", "(I)I"⟩ : Cond) ∈ gw := gw_t 1015 (by decide +kernel) rfl
set_option maxRecDepth 100000 in
theorem tw1016 : (.instanceMethod ⟨"FamilyChart$Family", "countUnionsOf", "(I)I"⟩ : Cond) ∈ gw := gw_t 1016 (by decide +kernel) rfl
set_option maxRecDepth 100000 in
theorem tw1017 : (.selects "FamilyChart$Family" ⟨"FamilyChart$Family", "countUnionsOf", "(I)I"⟩ ⟨"FamilyChart$Family", "countUnionsOf", "(I)I"⟩ : Cond) ∈ gw := gw_t 1017 (by decide +kernel) rfl
set_option maxRecDepth 100000 in
theorem tw1018 : (.code ⟨"FamilyChart$Family", "countUnionsOf", "(I)I"⟩ prog_3_method_23_code 4 (Option.some ClassFile.FieldType.int) : Cond) ∈ gw := gw_t 1018 (by decide +kernel) rfl
set_option maxRecDepth 100000 in
theorem tw1020 : (.methodLink "FamilyChartLaw" 124 ⟨"FamilyChartLaw", "union", "(LFamilyChart;II[J)I"⟩ : Cond) ∈ gw := gw_t 1020 (by decide +kernel) rfl
set_option maxRecDepth 100000 in
theorem tw1021 : (.static ⟨"FamilyChartLaw", "union", "(LFamilyChart;II[J)I"⟩ : Cond) ∈ gw := gw_t 1021 (by decide +kernel) rfl
set_option maxRecDepth 100000 in
theorem tw1023 : (.methodLink "FamilyChartLaw" 21 ⟨"FamilyChart", "union", "(II)I"⟩ : Cond) ∈ gw := gw_t 1023 (by decide +kernel) rfl
set_option maxRecDepth 100000 in
theorem tw1024 : (.instanceMethod ⟨"FamilyChart", "union", "(II)I"⟩ : Cond) ∈ gw := gw_t 1024 (by decide +kernel) rfl
set_option maxRecDepth 100000 in
theorem tw1025 : (.selects "FamilyChart" ⟨"FamilyChart", "union", "(II)I"⟩ ⟨"FamilyChart", "union", "(II)I"⟩ : Cond) ∈ gw := gw_t 1025 (by decide +kernel) rfl
set_option maxRecDepth 100000 in
theorem tw1026 : (.code ⟨"FamilyChart", "union", "(II)I"⟩ prog_1_method_7_code 3 (Option.some ClassFile.FieldType.int) : Cond) ∈ gw := gw_t 1026 (by decide +kernel) rfl
set_option maxRecDepth 100000 in
theorem tw1027 : (.methodLink "FamilyChart" 167 ⟨"FamilyChart", "requireUnion", "(I)V"⟩ : Cond) ∈ gw := gw_t 1027 (by decide +kernel) rfl
set_option maxRecDepth 100000 in
theorem tw1029 : (.instanceMethod ⟨"FamilyChart", "requireUnion", "(I)V"⟩ : Cond) ∈ gw := gw_t 1029 (by decide +kernel) rfl
set_option maxRecDepth 100000 in
theorem tw1030 : (.code ⟨"FamilyChart", "requireUnion", "(I)V"⟩ prog_1_method_43_code 2 (Option.none : Option ClassFile.FieldType) : Cond) ∈ gw := gw_t 1030 (by decide +kernel) rfl
set_option maxRecDepth 100000 in
theorem tw1031 : (.methodLink "FamilyChart" 364 ⟨"FamilyChart$Family", "hasUnion", "(I)Z"⟩ : Cond) ∈ gw := gw_t 1031 (by decide +kernel) rfl
set_option maxRecDepth 100000 in
theorem tw1032 : (.instanceMethod ⟨"FamilyChart$Family", "hasUnion", "(I)Z"⟩ : Cond) ∈ gw := gw_t 1032 (by decide +kernel) rfl
set_option maxRecDepth 100000 in
theorem tw1033 : (.selects "FamilyChart$Family" ⟨"FamilyChart$Family", "hasUnion", "(I)Z"⟩ ⟨"FamilyChart$Family", "hasUnion", "(I)Z"⟩ : Cond) ∈ gw := gw_t 1033 (by decide +kernel) rfl
set_option maxRecDepth 100000 in
theorem tw1034 : (.code ⟨"FamilyChart$Family", "hasUnion", "(I)Z"⟩ prog_3_method_3_code 2 (Option.some ClassFile.FieldType.boolean) : Cond) ∈ gw := gw_t 1034 (by decide +kernel) rfl
set_option maxRecDepth 100000 in
theorem tw1036 : (.methodLink "FamilyChart" 182 ⟨"FamilyChart$Family", "childMask", "(I)I"⟩ : Cond) ∈ gw := gw_t 1036 (by decide +kernel) rfl
set_option maxRecDepth 100000 in
theorem tw1037 : (.methodLink "FamilyChart" 185 ⟨"java/lang/Integer", "bitCount", "(I)I"⟩ : Cond) ∈ gw := gw_t 1037 (by decide +kernel) rfl
set_option maxRecDepth 100000 in
theorem tw1038 : (.static ⟨"java/lang/Integer", "bitCount", "(I)I"⟩ : Cond) ∈ gw := gw_t 1038 (by decide +kernel) rfl
set_option maxRecDepth 100000 in
theorem tw1039 : (.code ⟨"java/lang/Integer", "bitCount", "(I)I"⟩ prog_18_method_49_code 1 (Option.some ClassFile.FieldType.int) : Cond) ∈ gw := gw_t 1039 (by decide +kernel) rfl
set_option maxRecDepth 100000 in
theorem tw1040 : (.constant "java/lang/Integer" 265 (1431655765 : Int32) : Cond) ∈ gw := gw_t 1040 (by decide +kernel) rfl
set_option maxRecDepth 100000 in
theorem tw1041 : (.constant "java/lang/Integer" 266 (858993459 : Int32) : Cond) ∈ gw := gw_t 1041 (by decide +kernel) rfl
set_option maxRecDepth 100000 in
theorem tw1042 : (.constant "java/lang/Integer" 267 (252645135 : Int32) : Cond) ∈ gw := gw_t 1042 (by decide +kernel) rfl
set_option maxRecDepth 100000 in
theorem tw1043 : (.methodLink "FamilyChart" 190 ⟨"FamilyChart$Rows", "middleOf", "(I)I"⟩ : Cond) ∈ gw := gw_t 1043 (by decide +kernel) rfl
set_option maxRecDepth 100000 in
theorem tw1044 : (.methodLink "FamilyChart" 196 ⟨"FamilyChart$Columns", "middleOfUnion", "(I)I"⟩ : Cond) ∈ gw := gw_t 1044 (by decide +kernel) rfl
set_option maxRecDepth 100000 in
theorem tw1046 : (.methodLink "FamilyChartLaw" 127 ⟨"FamilyChartLaw", "children", "(LFamilyChart;I[J)I"⟩ : Cond) ∈ gw := gw_t 1046 (by decide +kernel) rfl
set_option maxRecDepth 100000 in
theorem tw1047 : (.static ⟨"FamilyChartLaw", "children", "(LFamilyChart;I[J)I"⟩ : Cond) ∈ gw := gw_t 1047 (by decide +kernel) rfl
set_option maxRecDepth 100000 in
theorem tw1049 : (.methodLink "FamilyChartLaw" 24 ⟨"FamilyChart", "children", "(I)I"⟩ : Cond) ∈ gw := gw_t 1049 (by decide +kernel) rfl
set_option maxRecDepth 100000 in
theorem tw1050 : (.instanceMethod ⟨"FamilyChart", "children", "(I)I"⟩ : Cond) ∈ gw := gw_t 1050 (by decide +kernel) rfl
set_option maxRecDepth 100000 in
theorem tw1051 : (.selects "FamilyChart" ⟨"FamilyChart", "children", "(I)I"⟩ ⟨"FamilyChart", "children", "(I)I"⟩ : Cond) ∈ gw := gw_t 1051 (by decide +kernel) rfl
set_option maxRecDepth 100000 in
theorem tw1052 : (.code ⟨"FamilyChart", "children", "(I)I"⟩ prog_1_method_8_code 2 (Option.some ClassFile.FieldType.int) : Cond) ∈ gw := gw_t 1052 (by decide +kernel) rfl
set_option maxRecDepth 100000 in
theorem tw1053 : (.methodLink "FamilyChartLaw" 130 ⟨"FamilyChartLaw", "ancestors", "(LFamilyChart;I[J)I"⟩ : Cond) ∈ gw := gw_t 1053 (by decide +kernel) rfl
set_option maxRecDepth 100000 in
theorem tw1054 : (.static ⟨"FamilyChartLaw", "ancestors", "(LFamilyChart;I[J)I"⟩ : Cond) ∈ gw := gw_t 1054 (by decide +kernel) rfl
set_option maxRecDepth 100000 in
theorem tw1056 : (.methodLink "FamilyChartLaw" 27 ⟨"FamilyChart", "ancestors", "(I)I"⟩ : Cond) ∈ gw := gw_t 1056 (by decide +kernel) rfl
set_option maxRecDepth 100000 in
theorem tw1057 : (.instanceMethod ⟨"FamilyChart", "ancestors", "(I)I"⟩ : Cond) ∈ gw := gw_t 1057 (by decide +kernel) rfl
set_option maxRecDepth 100000 in
theorem tw1058 : (.selects "FamilyChart" ⟨"FamilyChart", "ancestors", "(I)I"⟩ ⟨"FamilyChart", "ancestors", "(I)I"⟩ : Cond) ∈ gw := gw_t 1058 (by decide +kernel) rfl
set_option maxRecDepth 100000 in
theorem tw1059 : (.code ⟨"FamilyChart", "ancestors", "(I)I"⟩ prog_1_method_9_code 2 (Option.some ClassFile.FieldType.int) : Cond) ∈ gw := gw_t 1059 (by decide +kernel) rfl
set_option maxRecDepth 100000 in
theorem tw1060 : (.methodLink "FamilyChartLaw" 133 ⟨"FamilyChartLaw", "descendants", "(LFamilyChart;I[J)I"⟩ : Cond) ∈ gw := gw_t 1060 (by decide +kernel) rfl
set_option maxRecDepth 100000 in
theorem tw1061 : (.static ⟨"FamilyChartLaw", "descendants", "(LFamilyChart;I[J)I"⟩ : Cond) ∈ gw := gw_t 1061 (by decide +kernel) rfl
set_option maxRecDepth 100000 in
theorem tw1063 : (.methodLink "FamilyChartLaw" 30 ⟨"FamilyChart", "descendants", "(I)I"⟩ : Cond) ∈ gw := gw_t 1063 (by decide +kernel) rfl
set_option maxRecDepth 100000 in
theorem tw1064 : (.instanceMethod ⟨"FamilyChart", "descendants", "(I)I"⟩ : Cond) ∈ gw := gw_t 1064 (by decide +kernel) rfl
set_option maxRecDepth 100000 in
theorem tw1065 : (.selects "FamilyChart" ⟨"FamilyChart", "descendants", "(I)I"⟩ ⟨"FamilyChart", "descendants", "(I)I"⟩ : Cond) ∈ gw := gw_t 1065 (by decide +kernel) rfl
set_option maxRecDepth 100000 in
theorem tw1066 : (.code ⟨"FamilyChart", "descendants", "(I)I"⟩ prog_1_method_10_code 2 (Option.some ClassFile.FieldType.int) : Cond) ∈ gw := gw_t 1066 (by decide +kernel) rfl
set_option maxRecDepth 100000 in
theorem tw1067 : (.methodLink "FamilyChart" 204 ⟨"FamilyChart$Family", "descendantMask", "(I)I"⟩ : Cond) ∈ gw := gw_t 1067 (by decide +kernel) rfl
set_option maxRecDepth 100000 in
theorem tw1068 : (.instanceMethod ⟨"FamilyChart$Family", "descendantMask", "(I)I"⟩ : Cond) ∈ gw := gw_t 1068 (by decide +kernel) rfl
set_option maxRecDepth 100000 in
theorem tw1069 : (.selects "FamilyChart$Family" ⟨"FamilyChart$Family", "descendantMask", "(I)I"⟩ ⟨"FamilyChart$Family", "descendantMask", "(I)I"⟩ : Cond) ∈ gw := gw_t 1069 (by decide +kernel) rfl
set_option maxRecDepth 100000 in
theorem tw1070 : (.code ⟨"FamilyChart$Family", "descendantMask", "(I)I"⟩ prog_3_method_22_code 4 (Option.some ClassFile.FieldType.int) : Cond) ∈ gw := gw_t 1070 (by decide +kernel) rfl
set_option maxRecDepth 100000 in
theorem tw1071 : (.methodLink "FamilyChartLaw" 136 ⟨"FamilyChartLaw", "kinship", "(LFamilyChart;II[J)I"⟩ : Cond) ∈ gw := gw_t 1071 (by decide +kernel) rfl
set_option maxRecDepth 100000 in
theorem tw1072 : (.static ⟨"FamilyChartLaw", "kinship", "(LFamilyChart;II[J)I"⟩ : Cond) ∈ gw := gw_t 1072 (by decide +kernel) rfl
set_option maxRecDepth 100000 in
theorem tw1074 : (.methodLink "FamilyChartLaw" 33 ⟨"FamilyChart", "kinship", "(II)J"⟩ : Cond) ∈ gw := gw_t 1074 (by decide +kernel) rfl
set_option maxRecDepth 100000 in
theorem tw1075 : (.instanceMethod ⟨"FamilyChart", "kinship", "(II)J"⟩ : Cond) ∈ gw := gw_t 1075 (by decide +kernel) rfl
set_option maxRecDepth 100000 in
theorem tw1076 : (.selects "FamilyChart" ⟨"FamilyChart", "kinship", "(II)J"⟩ ⟨"FamilyChart", "kinship", "(II)J"⟩ : Cond) ∈ gw := gw_t 1076 (by decide +kernel) rfl
set_option maxRecDepth 100000 in
theorem tw1077 : (.code ⟨"FamilyChart", "kinship", "(II)J"⟩ prog_1_method_11_code 3 (Option.some ClassFile.FieldType.long) : Cond) ∈ gw := gw_t 1077 (by decide +kernel) rfl
set_option maxRecDepth 100000 in
theorem tw1078 : (.methodLink "FamilyChart" 210 ⟨"FamilyChart$Relations", "kinshipOf", "(II)J"⟩ : Cond) ∈ gw := gw_t 1078 (by decide +kernel) rfl
set_option maxRecDepth 100000 in
theorem tw1079 : (.methodLink "FamilyChartLaw" 139 ⟨"FamilyChartLaw", "distance", "(LFamilyChart;II[J)I"⟩ : Cond) ∈ gw := gw_t 1079 (by decide +kernel) rfl
set_option maxRecDepth 100000 in
theorem tw1080 : (.static ⟨"FamilyChartLaw", "distance", "(LFamilyChart;II[J)I"⟩ : Cond) ∈ gw := gw_t 1080 (by decide +kernel) rfl
set_option maxRecDepth 100000 in
theorem tw1082 : (.methodLink "FamilyChartLaw" 37 ⟨"FamilyChart", "distance", "(II)I"⟩ : Cond) ∈ gw := gw_t 1082 (by decide +kernel) rfl
set_option maxRecDepth 100000 in
theorem tw1083 : (.instanceMethod ⟨"FamilyChart", "distance", "(II)I"⟩ : Cond) ∈ gw := gw_t 1083 (by decide +kernel) rfl
set_option maxRecDepth 100000 in
theorem tw1084 : (.selects "FamilyChart" ⟨"FamilyChart", "distance", "(II)I"⟩ ⟨"FamilyChart", "distance", "(II)I"⟩ : Cond) ∈ gw := gw_t 1084 (by decide +kernel) rfl
set_option maxRecDepth 100000 in
theorem tw1085 : (.code ⟨"FamilyChart", "distance", "(II)I"⟩ prog_1_method_12_code 3 (Option.some ClassFile.FieldType.int) : Cond) ∈ gw := gw_t 1085 (by decide +kernel) rfl
set_option maxRecDepth 100000 in
theorem tw1086 : (.methodLink "FamilyChart" 214 ⟨"FamilyChart$Relations", "stepsBetween", "(II)I"⟩ : Cond) ∈ gw := gw_t 1086 (by decide +kernel) rfl
set_option maxRecDepth 100000 in
theorem tw1087 : (.instanceMethod ⟨"FamilyChart$Relations", "stepsBetween", "(II)I"⟩ : Cond) ∈ gw := gw_t 1087 (by decide +kernel) rfl
set_option maxRecDepth 100000 in
theorem tw1088 : (.selects "FamilyChart$Relations" ⟨"FamilyChart$Relations", "stepsBetween", "(II)I"⟩ ⟨"FamilyChart$Relations", "stepsBetween", "(II)I"⟩ : Cond) ∈ gw := gw_t 1088 (by decide +kernel) rfl
set_option maxRecDepth 100000 in
theorem tw1089 : (.code ⟨"FamilyChart$Relations", "stepsBetween", "(II)I"⟩ prog_8_method_7_code 5 (Option.some ClassFile.FieldType.int) : Cond) ∈ gw := gw_t 1089 (by decide +kernel) rfl
set_option maxRecDepth 100000 in
theorem tw1091 : (.methodLink "FamilyChart$Relations" 77 ⟨"FamilyChart$Relations", "neighbours", "(I)I"⟩ : Cond) ∈ gw := gw_t 1091 (by decide +kernel) rfl
set_option maxRecDepth 100000 in
theorem tw1093 : (.instanceMethod ⟨"FamilyChart$Relations", "neighbours", "(I)I"⟩ : Cond) ∈ gw := gw_t 1093 (by decide +kernel) rfl
set_option maxRecDepth 100000 in
theorem tw1094 : (.code ⟨"FamilyChart$Relations", "neighbours", "(I)I"⟩ prog_8_method_8_code 5 (Option.some ClassFile.FieldType.int) : Cond) ∈ gw := gw_t 1094 (by decide +kernel) rfl
set_option maxRecDepth 100000 in
theorem tw1095 : (.methodLink "FamilyChartLaw" 142 ⟨"FamilyChartLaw", "linesTo", "(LFamilyChart;II[J)I"⟩ : Cond) ∈ gw := gw_t 1095 (by decide +kernel) rfl
set_option maxRecDepth 100000 in
theorem tw1096 : (.static ⟨"FamilyChartLaw", "linesTo", "(LFamilyChart;II[J)I"⟩ : Cond) ∈ gw := gw_t 1096 (by decide +kernel) rfl
set_option maxRecDepth 100000 in
theorem tw1098 : (.methodLink "FamilyChartLaw" 40 ⟨"FamilyChart", "linesTo", "(II)I"⟩ : Cond) ∈ gw := gw_t 1098 (by decide +kernel) rfl
set_option maxRecDepth 100000 in
theorem tw1099 : (.instanceMethod ⟨"FamilyChart", "linesTo", "(II)I"⟩ : Cond) ∈ gw := gw_t 1099 (by decide +kernel) rfl
set_option maxRecDepth 100000 in
theorem tw1100 : (.selects "FamilyChart" ⟨"FamilyChart", "linesTo", "(II)I"⟩ ⟨"FamilyChart", "linesTo", "(II)I"⟩ : Cond) ∈ gw := gw_t 1100 (by decide +kernel) rfl
set_option maxRecDepth 100000 in
theorem tw1101 : (.code ⟨"FamilyChart", "linesTo", "(II)I"⟩ prog_1_method_13_code 3 (Option.some ClassFile.FieldType.int) : Cond) ∈ gw := gw_t 1101 (by decide +kernel) rfl
set_option maxRecDepth 100000 in
theorem tw1102 : (.methodLink "FamilyChart" 218 ⟨"FamilyChart$Relations", "countLines", "(II)I"⟩ : Cond) ∈ gw := gw_t 1102 (by decide +kernel) rfl
set_option maxRecDepth 100000 in
theorem tw1103 : (.instanceMethod ⟨"FamilyChart$Relations", "countLines", "(II)I"⟩ : Cond) ∈ gw := gw_t 1103 (by decide +kernel) rfl
set_option maxRecDepth 100000 in
theorem tw1104 : (.selects "FamilyChart$Relations" ⟨"FamilyChart$Relations", "countLines", "(II)I"⟩ ⟨"FamilyChart$Relations", "countLines", "(II)I"⟩ : Cond) ∈ gw := gw_t 1104 (by decide +kernel) rfl
set_option maxRecDepth 100000 in
theorem tw1105 : (.code ⟨"FamilyChart$Relations", "countLines", "(II)I"⟩ prog_8_method_9_code 5 (Option.some ClassFile.FieldType.int) : Cond) ∈ gw := gw_t 1105 (by decide +kernel) rfl
set_option maxRecDepth 100000 in
theorem tw1108 : (.methodLink "FamilyChartLaw" 145 ⟨"FamilyChartLaw", "nearestAncestor", "(LFamilyChart;II[J)I"⟩ : Cond) ∈ gw := gw_t 1108 (by decide +kernel) rfl
set_option maxRecDepth 100000 in
theorem tw1109 : (.static ⟨"FamilyChartLaw", "nearestAncestor", "(LFamilyChart;II[J)I"⟩ : Cond) ∈ gw := gw_t 1109 (by decide +kernel) rfl
set_option maxRecDepth 100000 in
theorem tw1111 : (.methodLink "FamilyChartLaw" 43 ⟨"FamilyChart", "nearestAncestor", "(II)I"⟩ : Cond) ∈ gw := gw_t 1111 (by decide +kernel) rfl
set_option maxRecDepth 100000 in
theorem tw1112 : (.instanceMethod ⟨"FamilyChart", "nearestAncestor", "(II)I"⟩ : Cond) ∈ gw := gw_t 1112 (by decide +kernel) rfl
set_option maxRecDepth 100000 in
theorem tw1113 : (.selects "FamilyChart" ⟨"FamilyChart", "nearestAncestor", "(II)I"⟩ ⟨"FamilyChart", "nearestAncestor", "(II)I"⟩ : Cond) ∈ gw := gw_t 1113 (by decide +kernel) rfl
set_option maxRecDepth 100000 in
theorem tw1114 : (.code ⟨"FamilyChart", "nearestAncestor", "(II)I"⟩ prog_1_method_14_code 3 (Option.some ClassFile.FieldType.int) : Cond) ∈ gw := gw_t 1114 (by decide +kernel) rfl
set_option maxRecDepth 100000 in
theorem tw1115 : (.methodLink "FamilyChart" 221 ⟨"FamilyChart$Relations", "nearestCommon", "(II)I"⟩ : Cond) ∈ gw := gw_t 1115 (by decide +kernel) rfl
set_option maxRecDepth 100000 in
theorem tw1116 : (.instanceMethod ⟨"FamilyChart$Relations", "nearestCommon", "(II)I"⟩ : Cond) ∈ gw := gw_t 1116 (by decide +kernel) rfl
set_option maxRecDepth 100000 in
theorem tw1117 : (.selects "FamilyChart$Relations" ⟨"FamilyChart$Relations", "nearestCommon", "(II)I"⟩ ⟨"FamilyChart$Relations", "nearestCommon", "(II)I"⟩ : Cond) ∈ gw := gw_t 1117 (by decide +kernel) rfl
set_option maxRecDepth 100000 in
theorem tw1118 : (.code ⟨"FamilyChart$Relations", "nearestCommon", "(II)I"⟩ prog_8_method_10_code 7 (Option.some ClassFile.FieldType.int) : Cond) ∈ gw := gw_t 1118 (by decide +kernel) rfl
set_option maxRecDepth 100000 in
theorem tw1119 : (.methodLink "FamilyChart$Relations" 88 ⟨"FamilyChart$Family", "lineageMask", "(I)I"⟩ : Cond) ∈ gw := gw_t 1119 (by decide +kernel) rfl
set_option maxRecDepth 100000 in
theorem tw1120 : (.methodLink "FamilyChartLaw" 148 ⟨"FamilyChartLaw", "collapse", "(LFamilyChart;II[J)I"⟩ : Cond) ∈ gw := gw_t 1120 (by decide +kernel) rfl
set_option maxRecDepth 100000 in
theorem tw1121 : (.static ⟨"FamilyChartLaw", "collapse", "(LFamilyChart;II[J)I"⟩ : Cond) ∈ gw := gw_t 1121 (by decide +kernel) rfl
set_option maxRecDepth 100000 in
theorem tw1123 : (.methodLink "FamilyChartLaw" 46 ⟨"FamilyChart", "collapse", "(II)I"⟩ : Cond) ∈ gw := gw_t 1123 (by decide +kernel) rfl
set_option maxRecDepth 100000 in
theorem tw1124 : (.instanceMethod ⟨"FamilyChart", "collapse", "(II)I"⟩ : Cond) ∈ gw := gw_t 1124 (by decide +kernel) rfl
set_option maxRecDepth 100000 in
theorem tw1125 : (.selects "FamilyChart" ⟨"FamilyChart", "collapse", "(II)I"⟩ ⟨"FamilyChart", "collapse", "(II)I"⟩ : Cond) ∈ gw := gw_t 1125 (by decide +kernel) rfl
set_option maxRecDepth 100000 in
theorem tw1126 : (.code ⟨"FamilyChart", "collapse", "(II)I"⟩ prog_1_method_15_code 3 (Option.some ClassFile.FieldType.int) : Cond) ∈ gw := gw_t 1126 (by decide +kernel) rfl
set_option maxRecDepth 100000 in
theorem tw1128 : (.methodLink "FamilyChart" 226 ⟨"FamilyChart$Relations", "countMissing", "(II)I"⟩ : Cond) ∈ gw := gw_t 1128 (by decide +kernel) rfl
set_option maxRecDepth 100000 in
theorem tw1129 : (.instanceMethod ⟨"FamilyChart$Relations", "countMissing", "(II)I"⟩ : Cond) ∈ gw := gw_t 1129 (by decide +kernel) rfl
set_option maxRecDepth 100000 in
theorem tw1130 : (.selects "FamilyChart$Relations" ⟨"FamilyChart$Relations", "countMissing", "(II)I"⟩ ⟨"FamilyChart$Relations", "countMissing", "(II)I"⟩ : Cond) ∈ gw := gw_t 1130 (by decide +kernel) rfl
set_option maxRecDepth 100000 in
theorem tw1131 : (.code ⟨"FamilyChart$Relations", "countMissing", "(II)I"⟩ prog_8_method_11_code 6 (Option.some ClassFile.FieldType.int) : Cond) ∈ gw := gw_t 1131 (by decide +kernel) rfl
set_option maxRecDepth 100000 in
theorem tw1132 : (.methodLink "FamilyChart$Relations" 91 ⟨"FamilyChart$Relations", "stepToParents", "()V"⟩ : Cond) ∈ gw := gw_t 1132 (by decide +kernel) rfl
set_option maxRecDepth 100000 in
theorem tw1134 : (.instanceMethod ⟨"FamilyChart$Relations", "stepToParents", "()V"⟩ : Cond) ∈ gw := gw_t 1134 (by decide +kernel) rfl
set_option maxRecDepth 100000 in
theorem tw1135 : (.code ⟨"FamilyChart$Relations", "stepToParents", "()V"⟩ prog_8_method_12_code 2 (Option.none : Option ClassFile.FieldType) : Cond) ∈ gw := gw_t 1135 (by decide +kernel) rfl
set_option maxRecDepth 100000 in
theorem tw1136 : (.methodLink "FamilyChart$Relations" 94 ⟨"FamilyChart$Family", "hasParents", "(I)Z"⟩ : Cond) ∈ gw := gw_t 1136 (by decide +kernel) rfl
set_option maxRecDepth 100000 in
theorem tw1137 : (.methodLink "FamilyChart$Relations" 98 ⟨"FamilyChart$Relations", "addWays", "(II)V"⟩ : Cond) ∈ gw := gw_t 1137 (by decide +kernel) rfl
set_option maxRecDepth 100000 in
theorem tw1139 : (.instanceMethod ⟨"FamilyChart$Relations", "addWays", "(II)V"⟩ : Cond) ∈ gw := gw_t 1139 (by decide +kernel) rfl
set_option maxRecDepth 100000 in
theorem tw1140 : (.code ⟨"FamilyChart$Relations", "addWays", "(II)V"⟩ prog_8_method_13_code 3 (Option.none : Option ClassFile.FieldType) : Cond) ∈ gw := gw_t 1140 (by decide +kernel) rfl
set_option maxRecDepth 100000 in
theorem tw1142 : (.methodLink "FamilyChartLaw" 151 ⟨"FamilyChartLaw", "boxes", "(LFamilyChart;I[J)I"⟩ : Cond) ∈ gw := gw_t 1142 (by decide +kernel) rfl
set_option maxRecDepth 100000 in
theorem tw1143 : (.static ⟨"FamilyChartLaw", "boxes", "(LFamilyChart;I[J)I"⟩ : Cond) ∈ gw := gw_t 1143 (by decide +kernel) rfl
set_option maxRecDepth 100000 in
theorem tw1145 : (.methodLink "FamilyChartLaw" 49 ⟨"FamilyChart", "boxes", "(I)I"⟩ : Cond) ∈ gw := gw_t 1145 (by decide +kernel) rfl
set_option maxRecDepth 100000 in
theorem tw1146 : (.instanceMethod ⟨"FamilyChart", "boxes", "(I)I"⟩ : Cond) ∈ gw := gw_t 1146 (by decide +kernel) rfl
set_option maxRecDepth 100000 in
theorem tw1147 : (.selects "FamilyChart" ⟨"FamilyChart", "boxes", "(I)I"⟩ ⟨"FamilyChart", "boxes", "(I)I"⟩ : Cond) ∈ gw := gw_t 1147 (by decide +kernel) rfl
set_option maxRecDepth 100000 in
theorem tw1148 : (.code ⟨"FamilyChart", "boxes", "(I)I"⟩ prog_1_method_16_code 2 (Option.some ClassFile.FieldType.int) : Cond) ∈ gw := gw_t 1148 (by decide +kernel) rfl
set_option maxRecDepth 100000 in
theorem tw1149 : (.methodLink "FamilyChart" 229 ⟨"FamilyChart", "requireRow", "(I)V"⟩ : Cond) ∈ gw := gw_t 1149 (by decide +kernel) rfl
set_option maxRecDepth 100000 in
theorem tw1151 : (.instanceMethod ⟨"FamilyChart", "requireRow", "(I)V"⟩ : Cond) ∈ gw := gw_t 1151 (by decide +kernel) rfl
set_option maxRecDepth 100000 in
theorem tw1152 : (.code ⟨"FamilyChart", "requireRow", "(I)V"⟩ prog_1_method_44_code 2 (Option.none : Option ClassFile.FieldType) : Cond) ∈ gw := gw_t 1152 (by decide +kernel) rfl
set_option maxRecDepth 100000 in
theorem tw1154 : (.methodLink "FamilyChart" 232 ⟨"FamilyChart$Rows", "boxCountOf", "(I)I"⟩ : Cond) ∈ gw := gw_t 1154 (by decide +kernel) rfl
set_option maxRecDepth 100000 in
theorem tw1155 : (.methodLink "FamilyChartLaw" 154 ⟨"FamilyChartLaw", "box", "(LFamilyChart;III[J)I"⟩ : Cond) ∈ gw := gw_t 1155 (by decide +kernel) rfl
set_option maxRecDepth 100000 in
theorem tw1156 : (.static ⟨"FamilyChartLaw", "box", "(LFamilyChart;III[J)I"⟩ : Cond) ∈ gw := gw_t 1156 (by decide +kernel) rfl
set_option maxRecDepth 100000 in
theorem tw1158 : (.methodLink "FamilyChartLaw" 52 ⟨"FamilyChart", "box", "(III)I"⟩ : Cond) ∈ gw := gw_t 1158 (by decide +kernel) rfl
set_option maxRecDepth 100000 in
theorem tw1159 : (.instanceMethod ⟨"FamilyChart", "box", "(III)I"⟩ : Cond) ∈ gw := gw_t 1159 (by decide +kernel) rfl
set_option maxRecDepth 100000 in
theorem tw1160 : (.selects "FamilyChart" ⟨"FamilyChart", "box", "(III)I"⟩ ⟨"FamilyChart", "box", "(III)I"⟩ : Cond) ∈ gw := gw_t 1160 (by decide +kernel) rfl
set_option maxRecDepth 100000 in
theorem tw1161 : (.code ⟨"FamilyChart", "box", "(III)I"⟩ prog_1_method_17_code 5 (Option.some ClassFile.FieldType.int) : Cond) ∈ gw := gw_t 1161 (by decide +kernel) rfl
set_option maxRecDepth 100000 in
theorem tw1162 : (.methodLink "FamilyChart" 235 ⟨"FamilyChart", "requirePlace", "(II)V"⟩ : Cond) ∈ gw := gw_t 1162 (by decide +kernel) rfl
set_option maxRecDepth 100000 in
theorem tw1164 : (.instanceMethod ⟨"FamilyChart", "requirePlace", "(II)V"⟩ : Cond) ∈ gw := gw_t 1164 (by decide +kernel) rfl
set_option maxRecDepth 100000 in
theorem tw1165 : (.code ⟨"FamilyChart", "requirePlace", "(II)V"⟩ prog_1_method_45_code 3 (Option.none : Option ClassFile.FieldType) : Cond) ∈ gw := gw_t 1165 (by decide +kernel) rfl
set_option maxRecDepth 100000 in
theorem tw1167 : (.methodLink "FamilyChart" 239 ⟨"FamilyChart$Rows", "boxAt", "(II)I"⟩ : Cond) ∈ gw := gw_t 1167 (by decide +kernel) rfl
set_option maxRecDepth 100000 in
theorem tw1168 : (.methodLink "FamilyChart" 242 ⟨"FamilyChart$Rows", "personOf", "(I)I"⟩ : Cond) ∈ gw := gw_t 1168 (by decide +kernel) rfl
set_option maxRecDepth 100000 in
theorem tw1169 : (.methodLink "FamilyChart" 245 ⟨"FamilyChart", "unionOfReference", "(I)I"⟩ : Cond) ∈ gw := gw_t 1169 (by decide +kernel) rfl
set_option maxRecDepth 100000 in
theorem tw1170 : (.methodLink "FamilyChart" 251 ⟨"FamilyChart$Columns", "widthOf", "(I)I"⟩ : Cond) ∈ gw := gw_t 1170 (by decide +kernel) rfl
set_option maxRecDepth 100000 in
theorem tw1172 : (.methodLink "FamilyChartLaw" 158 ⟨"FamilyChartLaw", "place", "(LFamilyChart;I[J)I"⟩ : Cond) ∈ gw := gw_t 1172 (by decide +kernel) rfl
set_option maxRecDepth 100000 in
theorem tw1173 : (.static ⟨"FamilyChartLaw", "place", "(LFamilyChart;I[J)I"⟩ : Cond) ∈ gw := gw_t 1173 (by decide +kernel) rfl
set_option maxRecDepth 100000 in
theorem tw1175 : (.methodLink "FamilyChartLaw" 56 ⟨"FamilyChart", "place", "(I)I"⟩ : Cond) ∈ gw := gw_t 1175 (by decide +kernel) rfl
set_option maxRecDepth 100000 in
theorem tw1176 : (.instanceMethod ⟨"FamilyChart", "place", "(I)I"⟩ : Cond) ∈ gw := gw_t 1176 (by decide +kernel) rfl
set_option maxRecDepth 100000 in
theorem tw1177 : (.selects "FamilyChart" ⟨"FamilyChart", "place", "(I)I"⟩ ⟨"FamilyChart", "place", "(I)I"⟩ : Cond) ∈ gw := gw_t 1177 (by decide +kernel) rfl
set_option maxRecDepth 100000 in
theorem tw1178 : (.code ⟨"FamilyChart", "place", "(I)I"⟩ prog_1_method_18_code 2 (Option.some ClassFile.FieldType.int) : Cond) ∈ gw := gw_t 1178 (by decide +kernel) rfl
set_option maxRecDepth 100000 in
theorem tw1179 : (.methodLink "FamilyChartLaw" 165 ⟨"FamilyChartLaw", "crossingsOf", "(LFamilyChart;IZ[J)I"⟩ : Cond) ∈ gw := gw_t 1179 (by decide +kernel) rfl
set_option maxRecDepth 100000 in
theorem tw1180 : (.static ⟨"FamilyChartLaw", "crossingsOf", "(LFamilyChart;IZ[J)I"⟩ : Cond) ∈ gw := gw_t 1180 (by decide +kernel) rfl
set_option maxRecDepth 100000 in
theorem tw1182 : (.methodLink "FamilyChartLaw" 59 ⟨"FamilyChart", "crossingsOf", "(IZ)I"⟩ : Cond) ∈ gw := gw_t 1182 (by decide +kernel) rfl
set_option maxRecDepth 100000 in
theorem tw1183 : (.instanceMethod ⟨"FamilyChart", "crossingsOf", "(IZ)I"⟩ : Cond) ∈ gw := gw_t 1183 (by decide +kernel) rfl
set_option maxRecDepth 100000 in
theorem tw1184 : (.selects "FamilyChart" ⟨"FamilyChart", "crossingsOf", "(IZ)I"⟩ ⟨"FamilyChart", "crossingsOf", "(IZ)I"⟩ : Cond) ∈ gw := gw_t 1184 (by decide +kernel) rfl
set_option maxRecDepth 100000 in
theorem tw1185 : (.code ⟨"FamilyChart", "crossingsOf", "(IZ)I"⟩ prog_1_method_20_code 3 (Option.some ClassFile.FieldType.int) : Cond) ∈ gw := gw_t 1185 (by decide +kernel) rfl
set_option maxRecDepth 100000 in
theorem tw1186 : (.methodLink "FamilyChart" 262 ⟨"FamilyChart$Rows", "countCrossingsBelow", "(I)I"⟩ : Cond) ∈ gw := gw_t 1186 (by decide +kernel) rfl
set_option maxRecDepth 100000 in
theorem tw1187 : (.methodLink "FamilyChart" 265 ⟨"FamilyChart$Rows", "countCrossingsIn", "(I)I"⟩ : Cond) ∈ gw := gw_t 1187 (by decide +kernel) rfl
set_option maxRecDepth 100000 in
theorem tw1188 : (.methodLink "FamilyChartLaw" 169 ⟨"FamilyChartLaw", "crossingsIf", "(LFamilyChart;III[J)I"⟩ : Cond) ∈ gw := gw_t 1188 (by decide +kernel) rfl
set_option maxRecDepth 100000 in
theorem tw1189 : (.static ⟨"FamilyChartLaw", "crossingsIf", "(LFamilyChart;III[J)I"⟩ : Cond) ∈ gw := gw_t 1189 (by decide +kernel) rfl
set_option maxRecDepth 100000 in
theorem tw1191 : (.methodLink "FamilyChartLaw" 63 ⟨"FamilyChart", "crossingsIf", "(III)I"⟩ : Cond) ∈ gw := gw_t 1191 (by decide +kernel) rfl
set_option maxRecDepth 100000 in
theorem tw1192 : (.instanceMethod ⟨"FamilyChart", "crossingsIf", "(III)I"⟩ : Cond) ∈ gw := gw_t 1192 (by decide +kernel) rfl
set_option maxRecDepth 100000 in
theorem tw1193 : (.selects "FamilyChart" ⟨"FamilyChart", "crossingsIf", "(III)I"⟩ ⟨"FamilyChart", "crossingsIf", "(III)I"⟩ : Cond) ∈ gw := gw_t 1193 (by decide +kernel) rfl
set_option maxRecDepth 100000 in
theorem tw1194 : (.code ⟨"FamilyChart", "crossingsIf", "(III)I"⟩ prog_1_method_21_code 5 (Option.some ClassFile.FieldType.int) : Cond) ∈ gw := gw_t 1194 (by decide +kernel) rfl
set_option maxRecDepth 100000 in
theorem tw1195 : (.methodLink "FamilyChart" 268 ⟨"FamilyChart$Rows", "exchange", "(III)V"⟩ : Cond) ∈ gw := gw_t 1195 (by decide +kernel) rfl
set_option maxRecDepth 100000 in
theorem tw1196 : (.methodLink "FamilyChartLaw" 176 ⟨"FamilyChartLaw", "format", "(LFamilyChart;III[J)I"⟩ : Cond) ∈ gw := gw_t 1196 (by decide +kernel) rfl
set_option maxRecDepth 100000 in
theorem tw1197 : (.static ⟨"FamilyChartLaw", "format", "(LFamilyChart;III[J)I"⟩ : Cond) ∈ gw := gw_t 1197 (by decide +kernel) rfl
set_option maxRecDepth 100000 in
theorem tw1199 : (.methodLink "FamilyChartLaw" 66 ⟨"FamilyChart", "format", "(III)I"⟩ : Cond) ∈ gw := gw_t 1199 (by decide +kernel) rfl
set_option maxRecDepth 100000 in
theorem tw1200 : (.instanceMethod ⟨"FamilyChart", "format", "(III)I"⟩ : Cond) ∈ gw := gw_t 1200 (by decide +kernel) rfl
set_option maxRecDepth 100000 in
theorem tw1201 : (.selects "FamilyChart" ⟨"FamilyChart", "format", "(III)I"⟩ ⟨"FamilyChart", "format", "(III)I"⟩ : Cond) ∈ gw := gw_t 1201 (by decide +kernel) rfl
set_option maxRecDepth 100000 in
theorem tw1202 : (.code ⟨"FamilyChart", "format", "(III)I"⟩ prog_1_method_23_code 4 (Option.some ClassFile.FieldType.int) : Cond) ∈ gw := gw_t 1202 (by decide +kernel) rfl
set_option maxRecDepth 100000 in
theorem tw1204 : (.methodLink "FamilyChart" 277 ⟨"FamilyChart", "requireStripWidth", "(I)V"⟩ : Cond) ∈ gw := gw_t 1204 (by decide +kernel) rfl
set_option maxRecDepth 100000 in
theorem tw1205 : (.static ⟨"FamilyChart", "requireStripWidth", "(I)V"⟩ : Cond) ∈ gw := gw_t 1205 (by decide +kernel) rfl
set_option maxRecDepth 100000 in
theorem tw1206 : (.code ⟨"FamilyChart", "requireStripWidth", "(I)V"⟩ prog_1_method_46_code 1 (Option.none : Option ClassFile.FieldType) : Cond) ∈ gw := gw_t 1206 (by decide +kernel) rfl
set_option maxRecDepth 100000 in
theorem tw1208 : (.methodLink "FamilyChart" 280 ⟨"FamilyChart$Printer", "printLine", "(I)V"⟩ : Cond) ∈ gw := gw_t 1208 (by decide +kernel) rfl
set_option maxRecDepth 100000 in
theorem tw1209 : (.methodLink "FamilyChart" 283 ⟨"FamilyChart$Printer", "cutText", "(JI)V"⟩ : Cond) ∈ gw := gw_t 1209 (by decide +kernel) rfl
set_option maxRecDepth 100000 in
theorem tw1210 : (.instanceMethod ⟨"FamilyChart$Printer", "cutText", "(JI)V"⟩ : Cond) ∈ gw := gw_t 1210 (by decide +kernel) rfl
set_option maxRecDepth 100000 in
theorem tw1211 : (.selects "FamilyChart$Printer" ⟨"FamilyChart$Printer", "cutText", "(JI)V"⟩ ⟨"FamilyChart$Printer", "cutText", "(JI)V"⟩ : Cond) ∈ gw := gw_t 1211 (by decide +kernel) rfl
set_option maxRecDepth 100000 in
theorem tw1212 : (.code ⟨"FamilyChart$Printer", "cutText", "(JI)V"⟩ prog_6_method_12_code 7 (Option.none : Option ClassFile.FieldType) : Cond) ∈ gw := gw_t 1212 (by decide +kernel) rfl
set_option maxRecDepth 100000 in
theorem tw1213 : (.methodLink "FamilyChartLaw" 183 ⟨"FamilyChartLaw", "strips", "(LFamilyChart;I[J)I"⟩ : Cond) ∈ gw := gw_t 1213 (by decide +kernel) rfl
set_option maxRecDepth 100000 in
theorem tw1214 : (.static ⟨"FamilyChartLaw", "strips", "(LFamilyChart;I[J)I"⟩ : Cond) ∈ gw := gw_t 1214 (by decide +kernel) rfl
set_option maxRecDepth 100000 in
theorem tw1216 : (.methodLink "FamilyChartLaw" 69 ⟨"FamilyChart", "strips", "(I)I"⟩ : Cond) ∈ gw := gw_t 1216 (by decide +kernel) rfl
set_option maxRecDepth 100000 in
theorem tw1217 : (.instanceMethod ⟨"FamilyChart", "strips", "(I)I"⟩ : Cond) ∈ gw := gw_t 1217 (by decide +kernel) rfl
set_option maxRecDepth 100000 in
theorem tw1218 : (.selects "FamilyChart" ⟨"FamilyChart", "strips", "(I)I"⟩ ⟨"FamilyChart", "strips", "(I)I"⟩ : Cond) ∈ gw := gw_t 1218 (by decide +kernel) rfl
set_option maxRecDepth 100000 in
theorem tw1219 : (.code ⟨"FamilyChart", "strips", "(I)I"⟩ prog_1_method_25_code 2 (Option.some ClassFile.FieldType.int) : Cond) ∈ gw := gw_t 1219 (by decide +kernel) rfl
set_option maxRecDepth 100000 in
theorem tw1220 : (.methodLink "FamilyChartLaw" 186 ⟨"FamilyChartLaw", "cutBoxes", "(LFamilyChart;I[J)I"⟩ : Cond) ∈ gw := gw_t 1220 (by decide +kernel) rfl
set_option maxRecDepth 100000 in
theorem tw1221 : (.static ⟨"FamilyChartLaw", "cutBoxes", "(LFamilyChart;I[J)I"⟩ : Cond) ∈ gw := gw_t 1221 (by decide +kernel) rfl
set_option maxRecDepth 100000 in
theorem tw1223 : (.methodLink "FamilyChartLaw" 72 ⟨"FamilyChart", "cutBoxes", "(I)I"⟩ : Cond) ∈ gw := gw_t 1223 (by decide +kernel) rfl
set_option maxRecDepth 100000 in
theorem tw1224 : (.instanceMethod ⟨"FamilyChart", "cutBoxes", "(I)I"⟩ : Cond) ∈ gw := gw_t 1224 (by decide +kernel) rfl
set_option maxRecDepth 100000 in
theorem tw1225 : (.selects "FamilyChart" ⟨"FamilyChart", "cutBoxes", "(I)I"⟩ ⟨"FamilyChart", "cutBoxes", "(I)I"⟩ : Cond) ∈ gw := gw_t 1225 (by decide +kernel) rfl
set_option maxRecDepth 100000 in
theorem tw1226 : (.code ⟨"FamilyChart", "cutBoxes", "(I)I"⟩ prog_1_method_26_code 2 (Option.some ClassFile.FieldType.int) : Cond) ∈ gw := gw_t 1226 (by decide +kernel) rfl
set_option maxRecDepth 100000 in
theorem tw1227 : (.methodLink "FamilyChart" 293 ⟨"FamilyChart$Columns", "countCut", "(I)I"⟩ : Cond) ∈ gw := gw_t 1227 (by decide +kernel) rfl
set_option maxRecDepth 100000 in
theorem tw1228 : (.instanceMethod ⟨"FamilyChart$Columns", "countCut", "(I)I"⟩ : Cond) ∈ gw := gw_t 1228 (by decide +kernel) rfl
set_option maxRecDepth 100000 in
theorem tw1229 : (.selects "FamilyChart$Columns" ⟨"FamilyChart$Columns", "countCut", "(I)I"⟩ ⟨"FamilyChart$Columns", "countCut", "(I)I"⟩ : Cond) ∈ gw := gw_t 1229 (by decide +kernel) rfl
set_option maxRecDepth 100000 in
theorem tw1230 : (.code ⟨"FamilyChart$Columns", "countCut", "(I)I"⟩ prog_2_method_6_code 5 (Option.some ClassFile.FieldType.int) : Cond) ∈ gw := gw_t 1230 (by decide +kernel) rfl
set_option maxRecDepth 100000 in
theorem tw1231 : (.methodLink "FamilyChart$Columns" 83 ⟨"FamilyChart$Columns", "isCut", "(II)Z"⟩ : Cond) ∈ gw := gw_t 1231 (by decide +kernel) rfl
set_option maxRecDepth 100000 in
theorem tw1233 : (.instanceMethod ⟨"FamilyChart$Columns", "isCut", "(II)Z"⟩ : Cond) ∈ gw := gw_t 1233 (by decide +kernel) rfl
set_option maxRecDepth 100000 in
theorem tw1234 : (.code ⟨"FamilyChart$Columns", "isCut", "(II)Z"⟩ prog_2_method_7_code 5 (Option.some ClassFile.FieldType.boolean) : Cond) ∈ gw := gw_t 1234 (by decide +kernel) rfl
set_option maxRecDepth 100000 in
theorem tw1235 : (.methodLink "FamilyChartLaw" 199 ⟨"FamilyChartLaw", "marry", "(LFamilyChart;III[J)I"⟩ : Cond) ∈ gw := gw_t 1235 (by decide +kernel) rfl
set_option maxRecDepth 100000 in
theorem tw1236 : (.static ⟨"FamilyChartLaw", "marry", "(LFamilyChart;III[J)I"⟩ : Cond) ∈ gw := gw_t 1236 (by decide +kernel) rfl
set_option maxRecDepth 100000 in
theorem tw1238 : (.methodLink "FamilyChartLaw" 75 ⟨"FamilyChart", "marry", "(III)I"⟩ : Cond) ∈ gw := gw_t 1238 (by decide +kernel) rfl
set_option maxRecDepth 100000 in
theorem tw1239 : (.instanceMethod ⟨"FamilyChart", "marry", "(III)I"⟩ : Cond) ∈ gw := gw_t 1239 (by decide +kernel) rfl
set_option maxRecDepth 100000 in
theorem tw1240 : (.selects "FamilyChart" ⟨"FamilyChart", "marry", "(III)I"⟩ ⟨"FamilyChart", "marry", "(III)I"⟩ : Cond) ∈ gw := gw_t 1240 (by decide +kernel) rfl
set_option maxRecDepth 100000 in
theorem tw1241 : (.code ⟨"FamilyChart", "marry", "(III)I"⟩ prog_1_method_29_code 5 (Option.some ClassFile.FieldType.int) : Cond) ∈ gw := gw_t 1241 (by decide +kernel) rfl
set_option maxRecDepth 100000 in
theorem tw1243 : (.methodLink "FamilyChart" 304 ⟨"FamilyChart$Family", "unionOfPair", "(II)I"⟩ : Cond) ∈ gw := gw_t 1243 (by decide +kernel) rfl
set_option maxRecDepth 100000 in
theorem tw1244 : (.methodLink "FamilyChart" 310 ⟨"FamilyChart$Family", "addUnion", "(III)I"⟩ : Cond) ∈ gw := gw_t 1244 (by decide +kernel) rfl
set_option maxRecDepth 100000 in
theorem tw1245 : (.methodLink "FamilyChart" 314 ⟨"FamilyChart", "renewRows", "()V"⟩ : Cond) ∈ gw := gw_t 1245 (by decide +kernel) rfl
set_option maxRecDepth 100000 in
theorem tw1247 : (.instanceMethod ⟨"FamilyChart", "renewRows", "()V"⟩ : Cond) ∈ gw := gw_t 1247 (by decide +kernel) rfl
set_option maxRecDepth 100000 in
theorem tw1248 : (.code ⟨"FamilyChart", "renewRows", "()V"⟩ prog_1_method_41_code 1 (Option.none : Option ClassFile.FieldType) : Cond) ∈ gw := gw_t 1248 (by decide +kernel) rfl
set_option maxRecDepth 100000 in
theorem tw1249 : (.methodLink "FamilyChart" 356 ⟨"FamilyChart$Family", "refresh", "()V"⟩ : Cond) ∈ gw := gw_t 1249 (by decide +kernel) rfl
set_option maxRecDepth 100000 in
theorem tw1250 : (.methodLink "FamilyChartLaw" 202 ⟨"FamilyChartLaw", "adopt", "(LFamilyChart;II[J)I"⟩ : Cond) ∈ gw := gw_t 1250 (by decide +kernel) rfl
set_option maxRecDepth 100000 in
theorem tw1251 : (.static ⟨"FamilyChartLaw", "adopt", "(LFamilyChart;II[J)I"⟩ : Cond) ∈ gw := gw_t 1251 (by decide +kernel) rfl
set_option maxRecDepth 100000 in
theorem tw1253 : (.methodLink "FamilyChartLaw" 78 ⟨"FamilyChart", "adopt", "(II)I"⟩ : Cond) ∈ gw := gw_t 1253 (by decide +kernel) rfl
set_option maxRecDepth 100000 in
theorem tw1254 : (.instanceMethod ⟨"FamilyChart", "adopt", "(II)I"⟩ : Cond) ∈ gw := gw_t 1254 (by decide +kernel) rfl
set_option maxRecDepth 100000 in
theorem tw1255 : (.selects "FamilyChart" ⟨"FamilyChart", "adopt", "(II)I"⟩ ⟨"FamilyChart", "adopt", "(II)I"⟩ : Cond) ∈ gw := gw_t 1255 (by decide +kernel) rfl
set_option maxRecDepth 100000 in
theorem tw1256 : (.code ⟨"FamilyChart", "adopt", "(II)I"⟩ prog_1_method_30_code 3 (Option.some ClassFile.FieldType.int) : Cond) ∈ gw := gw_t 1256 (by decide +kernel) rfl
set_option maxRecDepth 100000 in
theorem tw1257 : (.methodLink "FamilyChart" 317 ⟨"FamilyChart$Family", "hasParents", "(I)Z"⟩ : Cond) ∈ gw := gw_t 1257 (by decide +kernel) rfl
set_option maxRecDepth 100000 in
theorem tw1258 : (.methodLink "FamilyChart" 321 ⟨"FamilyChart$Family", "partnerOrAncestor", "(II)Z"⟩ : Cond) ∈ gw := gw_t 1258 (by decide +kernel) rfl
set_option maxRecDepth 100000 in
theorem tw1259 : (.methodLink "FamilyChartLaw" 205 ⟨"FamilyChartLaw", "release", "(LFamilyChart;I[J)I"⟩ : Cond) ∈ gw := gw_t 1259 (by decide +kernel) rfl
set_option maxRecDepth 100000 in
theorem tw1260 : (.static ⟨"FamilyChartLaw", "release", "(LFamilyChart;I[J)I"⟩ : Cond) ∈ gw := gw_t 1260 (by decide +kernel) rfl
set_option maxRecDepth 100000 in
theorem tw1262 : (.methodLink "FamilyChartLaw" 81 ⟨"FamilyChart", "release", "(I)I"⟩ : Cond) ∈ gw := gw_t 1262 (by decide +kernel) rfl
set_option maxRecDepth 100000 in
theorem tw1263 : (.instanceMethod ⟨"FamilyChart", "release", "(I)I"⟩ : Cond) ∈ gw := gw_t 1263 (by decide +kernel) rfl
set_option maxRecDepth 100000 in
theorem tw1264 : (.selects "FamilyChart" ⟨"FamilyChart", "release", "(I)I"⟩ ⟨"FamilyChart", "release", "(I)I"⟩ : Cond) ∈ gw := gw_t 1264 (by decide +kernel) rfl
set_option maxRecDepth 100000 in
theorem tw1265 : (.code ⟨"FamilyChart", "release", "(I)I"⟩ prog_1_method_31_code 3 (Option.some ClassFile.FieldType.int) : Cond) ∈ gw := gw_t 1265 (by decide +kernel) rfl
set_option maxRecDepth 100000 in
theorem tw1266 : (.methodLink "FamilyChartLaw" 208 ⟨"FamilyChartLaw", "swap", "(LFamilyChart;III[J)I"⟩ : Cond) ∈ gw := gw_t 1266 (by decide +kernel) rfl
set_option maxRecDepth 100000 in
theorem tw1267 : (.static ⟨"FamilyChartLaw", "swap", "(LFamilyChart;III[J)I"⟩ : Cond) ∈ gw := gw_t 1267 (by decide +kernel) rfl
set_option maxRecDepth 100000 in
theorem tw1269 : (.methodLink "FamilyChartLaw" 84 ⟨"FamilyChart", "swap", "(III)I"⟩ : Cond) ∈ gw := gw_t 1269 (by decide +kernel) rfl
set_option maxRecDepth 100000 in
theorem tw1270 : (.instanceMethod ⟨"FamilyChart", "swap", "(III)I"⟩ : Cond) ∈ gw := gw_t 1270 (by decide +kernel) rfl
set_option maxRecDepth 100000 in
theorem tw1271 : (.selects "FamilyChart" ⟨"FamilyChart", "swap", "(III)I"⟩ ⟨"FamilyChart", "swap", "(III)I"⟩ : Cond) ∈ gw := gw_t 1271 (by decide +kernel) rfl
set_option maxRecDepth 100000 in
theorem tw1272 : (.code ⟨"FamilyChart", "swap", "(III)I"⟩ prog_1_method_32_code 4 (Option.some ClassFile.FieldType.int) : Cond) ∈ gw := gw_t 1272 (by decide +kernel) rfl
set_option maxRecDepth 100000 in
theorem tw1273 : (.methodLink "FamilyChartLaw" 211 ⟨"FamilyChartLaw", "improve", "(LFamilyChart;I[J)I"⟩ : Cond) ∈ gw := gw_t 1273 (by decide +kernel) rfl
set_option maxRecDepth 100000 in
theorem tw1274 : (.static ⟨"FamilyChartLaw", "improve", "(LFamilyChart;I[J)I"⟩ : Cond) ∈ gw := gw_t 1274 (by decide +kernel) rfl
set_option maxRecDepth 100000 in
theorem tw1276 : (.methodLink "FamilyChartLaw" 87 ⟨"FamilyChart", "improve", "(I)I"⟩ : Cond) ∈ gw := gw_t 1276 (by decide +kernel) rfl
set_option maxRecDepth 100000 in
theorem tw1277 : (.instanceMethod ⟨"FamilyChart", "improve", "(I)I"⟩ : Cond) ∈ gw := gw_t 1277 (by decide +kernel) rfl
set_option maxRecDepth 100000 in
theorem tw1278 : (.selects "FamilyChart" ⟨"FamilyChart", "improve", "(I)I"⟩ ⟨"FamilyChart", "improve", "(I)I"⟩ : Cond) ∈ gw := gw_t 1278 (by decide +kernel) rfl
set_option maxRecDepth 100000 in
theorem tw1279 : (.code ⟨"FamilyChart", "improve", "(I)I"⟩ prog_1_method_33_code 5 (Option.some ClassFile.FieldType.int) : Cond) ∈ gw := gw_t 1279 (by decide +kernel) rfl
set_option maxRecDepth 100000 in
theorem tw1281 : (.methodLink "FamilyChart" 331 ⟨"FamilyChart$Rows", "swapWhereBetter", "()I"⟩ : Cond) ∈ gw := gw_t 1281 (by decide +kernel) rfl
set_option maxRecDepth 100000 in
theorem tw1282 : (.instanceMethod ⟨"FamilyChart$Rows", "swapWhereBetter", "()I"⟩ : Cond) ∈ gw := gw_t 1282 (by decide +kernel) rfl
set_option maxRecDepth 100000 in
theorem tw1283 : (.selects "FamilyChart$Rows" ⟨"FamilyChart$Rows", "swapWhereBetter", "()I"⟩ ⟨"FamilyChart$Rows", "swapWhereBetter", "()I"⟩ : Cond) ∈ gw := gw_t 1283 (by decide +kernel) rfl
set_option maxRecDepth 100000 in
theorem tw1284 : (.code ⟨"FamilyChart$Rows", "swapWhereBetter", "()I"⟩ prog_9_method_21_code 6 (Option.some ClassFile.FieldType.int) : Cond) ∈ gw := gw_t 1284 (by decide +kernel) rfl
set_option maxRecDepth 100000 in
theorem tw1285 : (.methodLink "FamilyChart$Rows" 130 ⟨"FamilyChart$Rows", "countCrossingsAround", "(I)I"⟩ : Cond) ∈ gw := gw_t 1285 (by decide +kernel) rfl
set_option maxRecDepth 100000 in
theorem tw1287 : (.instanceMethod ⟨"FamilyChart$Rows", "countCrossingsAround", "(I)I"⟩ : Cond) ∈ gw := gw_t 1287 (by decide +kernel) rfl
set_option maxRecDepth 100000 in
theorem tw1288 : (.code ⟨"FamilyChart$Rows", "countCrossingsAround", "(I)I"⟩ prog_9_method_22_code 2 (Option.some ClassFile.FieldType.int) : Cond) ∈ gw := gw_t 1288 (by decide +kernel) rfl
set_option maxRecDepth 100000 in
theorem tw1289 : (.methodLink "FamilyChartLaw" 239 ⟨"FamilyChartLaw", "query", "(LFamilyChart;I[J)I"⟩ : Cond) ∈ gw := gw_t 1289 (by decide +kernel) rfl
set_option maxRecDepth 100000 in
theorem tw1290 : (.static ⟨"FamilyChartLaw", "query", "(LFamilyChart;I[J)I"⟩ : Cond) ∈ gw := gw_t 1290 (by decide +kernel) rfl
set_option maxRecDepth 100000 in
theorem tw1292 : (.methodLink "FamilyChartLaw" 90 ⟨"FamilyChart", "query", "(I)I"⟩ : Cond) ∈ gw := gw_t 1292 (by decide +kernel) rfl
set_option maxRecDepth 100000 in
theorem tw1293 : (.instanceMethod ⟨"FamilyChart", "query", "(I)I"⟩ : Cond) ∈ gw := gw_t 1293 (by decide +kernel) rfl
set_option maxRecDepth 100000 in
theorem tw1294 : (.selects "FamilyChart" ⟨"FamilyChart", "query", "(I)I"⟩ ⟨"FamilyChart", "query", "(I)I"⟩ : Cond) ∈ gw := gw_t 1294 (by decide +kernel) rfl
set_option maxRecDepth 100000 in
theorem tw1295 : (.code ⟨"FamilyChart", "query", "(I)I"⟩ prog_1_method_40_code 2 (Option.some ClassFile.FieldType.int) : Cond) ∈ gw := gw_t 1295 (by decide +kernel) rfl
set_option maxRecDepth 100000 in
theorem tw1297 : (.methodLink "FamilyChart" 355 ⟨"FamilyChart$QueryReader", "read", "(I)I"⟩ : Cond) ∈ gw := gw_t 1297 (by decide +kernel) rfl
set_option maxRecDepth 100000 in
theorem tw1298 : (.instanceMethod ⟨"FamilyChart$QueryReader", "read", "(I)I"⟩ : Cond) ∈ gw := gw_t 1298 (by decide +kernel) rfl
set_option maxRecDepth 100000 in
theorem tw1299 : (.selects "FamilyChart$QueryReader" ⟨"FamilyChart$QueryReader", "read", "(I)I"⟩ ⟨"FamilyChart$QueryReader", "read", "(I)I"⟩ : Cond) ∈ gw := gw_t 1299 (by decide +kernel) rfl
set_option maxRecDepth 100000 in
theorem tw1300 : (.code ⟨"FamilyChart$QueryReader", "read", "(I)I"⟩ prog_7_method_2_code 4 (Option.some ClassFile.FieldType.int) : Cond) ∈ gw := gw_t 1300 (by decide +kernel) rfl
set_option maxRecDepth 100000 in
theorem tw1301 : (.methodLink "FamilyChart$QueryReader" 29 ⟨"FamilyChart$QueryReader", "noteProperties", "()V"⟩ : Cond) ∈ gw := gw_t 1301 (by decide +kernel) rfl
set_option maxRecDepth 100000 in
theorem tw1303 : (.instanceMethod ⟨"FamilyChart$QueryReader", "noteProperties", "()V"⟩ : Cond) ∈ gw := gw_t 1303 (by decide +kernel) rfl
set_option maxRecDepth 100000 in
theorem tw1304 : (.code ⟨"FamilyChart$QueryReader", "noteProperties", "()V"⟩ prog_7_method_11_code 2 (Option.none : Option ClassFile.FieldType) : Cond) ∈ gw := gw_t 1304 (by decide +kernel) rfl
set_option maxRecDepth 100000 in
theorem tw1305 : (.methodLink "FamilyChart$QueryReader" 146 ⟨"FamilyChart$QueryReader", "noteProperty", "(III)V"⟩ : Cond) ∈ gw := gw_t 1305 (by decide +kernel) rfl
set_option maxRecDepth 100000 in
theorem tw1307 : (.instanceMethod ⟨"FamilyChart$QueryReader", "noteProperty", "(III)V"⟩ : Cond) ∈ gw := gw_t 1307 (by decide +kernel) rfl
set_option maxRecDepth 100000 in
theorem tw1308 : (.code ⟨"FamilyChart$QueryReader", "noteProperty", "(III)V"⟩ prog_7_method_12_code 4 (Option.none : Option ClassFile.FieldType) : Cond) ∈ gw := gw_t 1308 (by decide +kernel) rfl
set_option maxRecDepth 100000 in
theorem tw1311 : (.methodLink "FamilyChart$QueryReader" 155 ⟨"FamilyChart$Family", "countUnionsOf", "(I)I"⟩ : Cond) ∈ gw := gw_t 1311 (by decide +kernel) rfl
set_option maxRecDepth 100000 in
theorem tw1312 : (.methodLink "FamilyChart$QueryReader" 158 ⟨"FamilyChart$Family", "childMaskOfPerson", "(I)I"⟩ : Cond) ∈ gw := gw_t 1312 (by decide +kernel) rfl
set_option maxRecDepth 100000 in
theorem tw1313 : (.methodLink "FamilyChart$QueryReader" 68 ⟨"java/lang/Integer", "bitCount", "(I)I"⟩ : Cond) ∈ gw := gw_t 1313 (by decide +kernel) rfl
set_option maxRecDepth 100000 in
theorem tw1314 : (.methodLink "FamilyChart$QueryReader" 164 ⟨"FamilyChart$Family", "descendantMask", "(I)I"⟩ : Cond) ∈ gw := gw_t 1314 (by decide +kernel) rfl
set_option maxRecDepth 100000 in
theorem tw1315 : (.methodLink "FamilyChart$QueryReader" 32 ⟨"FamilyChart$Input", "open", "(I)V"⟩ : Cond) ∈ gw := gw_t 1315 (by decide +kernel) rfl
set_option maxRecDepth 100000 in
theorem tw1317 : (.methodLink "FamilyChart$QueryReader" 40 ⟨"FamilyChart$Input", "isWord", "(Ljava/lang/String;)Z"⟩ : Cond) ∈ gw := gw_t 1317 (by decide +kernel) rfl
set_option maxRecDepth 100000 in
theorem tw1319 : (.methodLink "FamilyChart$QueryReader" 46 ⟨"FamilyChart$Input", "fail", "(I)V"⟩ : Cond) ∈ gw := gw_t 1319 (by decide +kernel) rfl
set_option maxRecDepth 100000 in
theorem tw1320 : (.methodLink "FamilyChart$QueryReader" 49 ⟨"FamilyChart$Input", "advance", "()V"⟩ : Cond) ∈ gw := gw_t 1320 (by decide +kernel) rfl
set_option maxRecDepth 100000 in
theorem tw1321 : (.methodLink "FamilyChart$QueryReader" 52 ⟨"FamilyChart$QueryReader", "readTest", "(I)I"⟩ : Cond) ∈ gw := gw_t 1321 (by decide +kernel) rfl
set_option maxRecDepth 100000 in
theorem tw1323 : (.instanceMethod ⟨"FamilyChart$QueryReader", "readTest", "(I)I"⟩ : Cond) ∈ gw := gw_t 1323 (by decide +kernel) rfl
set_option maxRecDepth 100000 in
theorem tw1324 : (.code ⟨"FamilyChart$QueryReader", "readTest", "(I)I"⟩ prog_7_method_4_code 5 (Option.some ClassFile.FieldType.int) : Cond) ∈ gw := gw_t 1324 (by decide +kernel) rfl
set_option maxRecDepth 100000 in
theorem tw1325 : (.methodLink "FamilyChart$QueryReader" 79 ⟨"FamilyChart$QueryReader", "readFactor", "(I)I"⟩ : Cond) ∈ gw := gw_t 1325 (by decide +kernel) rfl
set_option maxRecDepth 100000 in
theorem tw1327 : (.instanceMethod ⟨"FamilyChart$QueryReader", "readFactor", "(I)I"⟩ : Cond) ∈ gw := gw_t 1327 (by decide +kernel) rfl
set_option maxRecDepth 100000 in
theorem tw1328 : (.code ⟨"FamilyChart$QueryReader", "readFactor", "(I)I"⟩ prog_7_method_5_code 4 (Option.some ClassFile.FieldType.int) : Cond) ∈ gw := gw_t 1328 (by decide +kernel) rfl
set_option maxRecDepth 100000 in
theorem tw1330 : (.methodLink "FamilyChart$QueryReader" 88 ⟨"FamilyChart$Input", "isSign", "(I)Z"⟩ : Cond) ∈ gw := gw_t 1330 (by decide +kernel) rfl
set_option maxRecDepth 100000 in
theorem tw1331 : (.methodLink "FamilyChart$QueryReader" 92 ⟨"FamilyChart$QueryReader", "readComparison", "()I"⟩ : Cond) ∈ gw := gw_t 1331 (by decide +kernel) rfl
set_option maxRecDepth 100000 in
theorem tw1333 : (.instanceMethod ⟨"FamilyChart$QueryReader", "readComparison", "()I"⟩ : Cond) ∈ gw := gw_t 1333 (by decide +kernel) rfl
set_option maxRecDepth 100000 in
theorem tw1334 : (.code ⟨"FamilyChart$QueryReader", "readComparison", "()I"⟩ prog_7_method_7_code 4 (Option.some ClassFile.FieldType.int) : Cond) ∈ gw := gw_t 1334 (by decide +kernel) rfl
set_option maxRecDepth 100000 in
theorem tw1335 : (.methodLink "FamilyChart$QueryReader" 104 ⟨"FamilyChart$QueryReader", "readValue", "([I)V"⟩ : Cond) ∈ gw := gw_t 1335 (by decide +kernel) rfl
set_option maxRecDepth 100000 in
theorem tw1337 : (.instanceMethod ⟨"FamilyChart$QueryReader", "readValue", "([I)V"⟩ : Cond) ∈ gw := gw_t 1337 (by decide +kernel) rfl
set_option maxRecDepth 100000 in
theorem tw1338 : (.code ⟨"FamilyChart$QueryReader", "readValue", "([I)V"⟩ prog_7_method_9_code 2 (Option.none : Option ClassFile.FieldType) : Cond) ∈ gw := gw_t 1338 (by decide +kernel) rfl
set_option maxRecDepth 100000 in
theorem tw1341 : (.methodLink "FamilyChart$QueryReader" 125 ⟨"FamilyChart$QueryReader", "takeProperty", "(I[I)V"⟩ : Cond) ∈ gw := gw_t 1341 (by decide +kernel) rfl
set_option maxRecDepth 100000 in
theorem tw1343 : (.instanceMethod ⟨"FamilyChart$QueryReader", "takeProperty", "(I[I)V"⟩ : Cond) ∈ gw := gw_t 1343 (by decide +kernel) rfl
set_option maxRecDepth 100000 in
theorem tw1344 : (.code ⟨"FamilyChart$QueryReader", "takeProperty", "(I[I)V"⟩ prog_7_method_10_code 4 (Option.none : Option ClassFile.FieldType) : Cond) ∈ gw := gw_t 1344 (by decide +kernel) rfl
set_option maxRecDepth 100000 in
theorem tw1351 : (.constant "FamilyChart$QueryReader" 141 (99999 : Int32) : Cond) ∈ gw := gw_t 1351 (by decide +kernel) rfl
set_option maxRecDepth 100000 in
theorem tw1352 : (.methodLink "FamilyChart$QueryReader" 60 ⟨"FamilyChart$Input", "isFine", "()Z"⟩ : Cond) ∈ gw := gw_t 1352 (by decide +kernel) rfl
set_option maxRecDepth 100000 in
theorem tw1353 : (.methodLink "FamilyChart$QueryReader" 115 ⟨"FamilyChart$QueryReader", "holds", "(III)Z"⟩ : Cond) ∈ gw := gw_t 1353 (by decide +kernel) rfl
set_option maxRecDepth 100000 in
theorem tw1354 : (.static ⟨"FamilyChart$QueryReader", "holds", "(III)Z"⟩ : Cond) ∈ gw := gw_t 1354 (by decide +kernel) rfl
set_option maxRecDepth 100000 in
theorem tw1355 : (.code ⟨"FamilyChart$QueryReader", "holds", "(III)Z"⟩ prog_7_method_8_code 3 (Option.some ClassFile.FieldType.boolean) : Cond) ∈ gw := gw_t 1355 (by decide +kernel) rfl
set_option maxRecDepth 100000 in
theorem tw1357 : (.methodLink "FamilyChart$QueryReader" 96 ⟨"FamilyChart$QueryReader", "everybody", "()I"⟩ : Cond) ∈ gw := gw_t 1357 (by decide +kernel) rfl
set_option maxRecDepth 100000 in
theorem tw1359 : (.instanceMethod ⟨"FamilyChart$QueryReader", "everybody", "()I"⟩ : Cond) ∈ gw := gw_t 1359 (by decide +kernel) rfl
set_option maxRecDepth 100000 in
theorem tw1360 : (.code ⟨"FamilyChart$QueryReader", "everybody", "()I"⟩ prog_7_method_6_code 1 (Option.some ClassFile.FieldType.int) : Cond) ∈ gw := gw_t 1360 (by decide +kernel) rfl
set_option maxRecDepth 100000 in
theorem tw1363 : (.constant "FamilyChart$QueryReader" 64 (-1000000000 : Int32) : Cond) ∈ gw := gw_t 1363 (by decide +kernel) rfl
set_option maxRecDepth 100000 in
theorem tw1364 : (.methodLink "FamilyChart$QueryReader" 73 ⟨"FamilyChart$QueryReader", "firstOf", "(I)I"⟩ : Cond) ∈ gw := gw_t 1364 (by decide +kernel) rfl
set_option maxRecDepth 100000 in
theorem tw1365 : (.static ⟨"FamilyChart$QueryReader", "firstOf", "(I)I"⟩ : Cond) ∈ gw := gw_t 1365 (by decide +kernel) rfl
set_option maxRecDepth 100000 in
theorem tw1366 : (.code ⟨"FamilyChart$QueryReader", "firstOf", "(I)I"⟩ prog_7_method_3_code 2 (Option.some ClassFile.FieldType.int) : Cond) ∈ gw := gw_t 1366 (by decide +kernel) rfl
set_option maxRecDepth 100000 in
theorem tw1367 : (.classLink "FamilyChartLaw" 94 "FamilyChartModel" : Cond) ∈ gw := gw_t 1367 (by decide +kernel) rfl
set_option maxRecDepth 100000 in
theorem tw1368 : (.instantiable "FamilyChartModel" 37 : Cond) ∈ gw := gw_t 1368 (by decide +kernel) rfl
set_option maxRecDepth 100000 in
theorem tw1369 : (.methodLink "FamilyChartLaw" 96 ⟨"FamilyChartModel", "<init>", "()V"⟩ : Cond) ∈ gw := gw_t 1369 (by decide +kernel) rfl
set_option maxRecDepth 100000 in
theorem tw1370 : (.instanceMethod ⟨"FamilyChartModel", "<init>", "()V"⟩ : Cond) ∈ gw := gw_t 1370 (by decide +kernel) rfl
set_option maxRecDepth 100000 in
theorem tw1371 : (.code ⟨"FamilyChartModel", "<init>", "()V"⟩ prog_12_method_1_code 1 (Option.none : Option ClassFile.FieldType) : Cond) ∈ gw := gw_t 1371 (by decide +kernel) rfl
set_option maxRecDepth 100000 in
theorem tw1372 : (.methodLink "FamilyChartModel" 3 ⟨"java/lang/Object", "<init>", "()V"⟩ : Cond) ∈ gw := gw_t 1372 (by decide +kernel) rfl
set_option maxRecDepth 100000 in
theorem tw1373 : (.classLink "FamilyChartModel" 70 "java/lang/String" : Cond) ∈ gw := gw_t 1373 (by decide +kernel) rfl
set_option maxRecDepth 100000 in
theorem tw1382 : (.fieldLink "FamilyChartModel" 9 "FamilyChartModel" "now" "[J" : Cond) ∈ gw := gw_t 1382 (by decide +kernel) rfl
set_option maxRecDepth 100000 in
theorem tw1383 : (.fieldLink "FamilyChartModel" 13 "FamilyChartModel" "draft" "[J" : Cond) ∈ gw := gw_t 1383 (by decide +kernel) rfl
set_option maxRecDepth 100000 in
theorem tw1384 : (.fieldLink "FamilyChartModel" 16 "FamilyChartModel" "snapshot" "[J" : Cond) ∈ gw := gw_t 1384 (by decide +kernel) rfl
set_option maxRecDepth 100000 in
theorem tw1385 : (.fieldLink "FamilyChartModel" 19 "FamilyChartModel" "history" "[J" : Cond) ∈ gw := gw_t 1385 (by decide +kernel) rfl
set_option maxRecDepth 100000 in
theorem tw1386 : (.fieldLink "FamilyChartModel" 354 "FamilyChartModel" "undoCount" "I" : Cond) ∈ gw := gw_t 1386 (by decide +kernel) rfl
set_option maxRecDepth 100000 in
theorem tw1387 : (.fieldLink "FamilyChartModel" 95 "FamilyChartModel" "thrown" "I" : Cond) ∈ gw := gw_t 1387 (by decide +kernel) rfl
set_option maxRecDepth 100000 in
theorem tw1388 : (.fieldLink "FamilyChartModel" 361 "FamilyChartModel" "hasSnapshot" "Z" : Cond) ∈ gw := gw_t 1388 (by decide +kernel) rfl
set_option maxRecDepth 100000 in
theorem tw1389 : (.fieldLink "FamilyChartModel" 22 "FamilyChartModel" "family" "[J" : Cond) ∈ gw := gw_t 1389 (by decide +kernel) rfl
set_option maxRecDepth 100000 in
theorem tw1390 : (.fieldLink "FamilyChartModel" 25 "FamilyChartModel" "generation" "[I" : Cond) ∈ gw := gw_t 1390 (by decide +kernel) rfl
set_option maxRecDepth 100000 in
theorem tw1391 : (.fieldLink "FamilyChartModel" 29 "FamilyChartModel" "level" "[I" : Cond) ∈ gw := gw_t 1391 (by decide +kernel) rfl
set_option maxRecDepth 100000 in
theorem tw1392 : (.fieldLink "FamilyChartModel" 32 "FamilyChartModel" "rowSize" "[I" : Cond) ∈ gw := gw_t 1392 (by decide +kernel) rfl
set_option maxRecDepth 100000 in
theorem tw1393 : (.fieldLink "FamilyChartModel" 35 "FamilyChartModel" "rowOf" "[I" : Cond) ∈ gw := gw_t 1393 (by decide +kernel) rfl
set_option maxRecDepth 100000 in
theorem tw1394 : (.fieldLink "FamilyChartModel" 38 "FamilyChartModel" "isThere" "[Z" : Cond) ∈ gw := gw_t 1394 (by decide +kernel) rfl
set_option maxRecDepth 100000 in
theorem tw1395 : (.fieldLink "FamilyChartModel" 42 "FamilyChartModel" "boxAt" "[I" : Cond) ∈ gw := gw_t 1395 (by decide +kernel) rfl
set_option maxRecDepth 100000 in
theorem tw1396 : (.fieldLink "FamilyChartModel" 132 "FamilyChartModel" "rows" "I" : Cond) ∈ gw := gw_t 1396 (by decide +kernel) rfl
set_option maxRecDepth 100000 in
theorem tw1397 : (.fieldLink "FamilyChartModel" 45 "FamilyChartModel" "column" "[I" : Cond) ∈ gw := gw_t 1397 (by decide +kernel) rfl
set_option maxRecDepth 100000 in
theorem tw1398 : (.fieldLink "FamilyChartModel" 48 "FamilyChartModel" "line" "[I" : Cond) ∈ gw := gw_t 1398 (by decide +kernel) rfl
set_option maxRecDepth 100000 in
theorem tw1399 : (.fieldLink "FamilyChartModel" 196 "FamilyChartModel" "lineLength" "I" : Cond) ∈ gw := gw_t 1399 (by decide +kernel) rfl
set_option maxRecDepth 100000 in
theorem tw1400 : (.fieldLink "FamilyChartModel" 51 "FamilyChartModel" "kinships" "[J" : Cond) ∈ gw := gw_t 1400 (by decide +kernel) rfl
set_option maxRecDepth 100000 in
theorem tw1401 : (.fieldLink "FamilyChartModel" 54 "FamilyChartModel" "ways" "[I" : Cond) ∈ gw := gw_t 1401 (by decide +kernel) rfl
set_option maxRecDepth 100000 in
theorem tw1402 : (.fieldLink "FamilyChartModel" 57 "FamilyChartModel" "further" "[I" : Cond) ∈ gw := gw_t 1402 (by decide +kernel) rfl
set_option maxRecDepth 100000 in
theorem tw1403 : (.fieldLink "FamilyChartModel" 60 "FamilyChartModel" "formatted" "[I" : Cond) ∈ gw := gw_t 1403 (by decide +kernel) rfl
set_option maxRecDepth 100000 in
theorem tw1404 : (.fieldLink "FamilyChartModel" 319 "FamilyChartModel" "formattedLength" "I" : Cond) ∈ gw := gw_t 1404 (by decide +kernel) rfl
set_option maxRecDepth 100000 in
theorem tw1405 : (.fieldLink "FamilyChartModel" 63 "FamilyChartModel" "buffer" "[I" : Cond) ∈ gw := gw_t 1405 (by decide +kernel) rfl
set_option maxRecDepth 100000 in
theorem tw1406 : (.fieldLink "FamilyChartModel" 365 "FamilyChartModel" "bufferLength" "I" : Cond) ∈ gw := gw_t 1406 (by decide +kernel) rfl
set_option maxRecDepth 100000 in
theorem tw1407 : (.fieldLink "FamilyChartModel" 368 "FamilyChartModel" "limit" "I" : Cond) ∈ gw := gw_t 1407 (by decide +kernel) rfl
set_option maxRecDepth 100000 in
theorem tw1408 : (.fieldLink "FamilyChartModel" 374 "FamilyChartModel" "next" "I" : Cond) ∈ gw := gw_t 1408 (by decide +kernel) rfl
set_option maxRecDepth 100000 in
theorem tw1409 : (.fieldLink "FamilyChartModel" 377 "FamilyChartModel" "beginsAt" "I" : Cond) ∈ gw := gw_t 1409 (by decide +kernel) rfl
set_option maxRecDepth 100000 in
theorem tw1410 : (.fieldLink "FamilyChartModel" 380 "FamilyChartModel" "token" "I" : Cond) ∈ gw := gw_t 1410 (by decide +kernel) rfl
set_option maxRecDepth 100000 in
theorem tw1411 : (.fieldLink "FamilyChartModel" 389 "FamilyChartModel" "error" "I" : Cond) ∈ gw := gw_t 1411 (by decide +kernel) rfl
set_option maxRecDepth 100000 in
theorem tw1412 : (.fieldLink "FamilyChartModel" 398 "FamilyChartModel" "errorAt" "I" : Cond) ∈ gw := gw_t 1412 (by decide +kernel) rfl
set_option maxRecDepth 100000 in
theorem tw1413 : (.fieldLink "FamilyChartModel" 66 "FamilyChartModel" "errorPosition" "I" : Cond) ∈ gw := gw_t 1413 (by decide +kernel) rfl
set_option maxRecDepth 100000 in
theorem tw1414 : (.fieldLink "FamilyChartModel" 392 "FamilyChartModel" "nested" "I" : Cond) ∈ gw := gw_t 1414 (by decide +kernel) rfl
set_option maxRecDepth 100000 in
theorem tw1415 : (.fieldLink "FamilyChartModel" 85 "FamilyChartModel" "names" "[Ljava/lang/String;" : Cond) ∈ gw := gw_t 1415 (by decide +kernel) rfl
set_option maxRecDepth 100000 in
theorem tw1416 : (.fieldLink "FamilyChartModel" 89 "FamilyChartModel" "codes" "[I" : Cond) ∈ gw := gw_t 1416 (by decide +kernel) rfl
set_option maxRecDepth 100000 in
theorem tw1417 : (.fieldLink "FamilyChartModel" 92 "FamilyChartModel" "stack" "[J" : Cond) ∈ gw := gw_t 1417 (by decide +kernel) rfl
set_option maxRecDepth 100000 in
theorem tw1418 : (.fieldLink "FamilyChartModel" 470 "FamilyChartModel" "codeCount" "I" : Cond) ∈ gw := gw_t 1418 (by decide +kernel) rfl
set_option maxRecDepth 100000 in
theorem tw1494 : (.arrayClass ClassFile.FieldType.boolean : Cond) ∈ gw := gw_t 1494 (by decide +kernel) rfl
set_option maxRecDepth 100000 in
theorem tw1495 : (.methodLink "FamilyChartLaw" 108 ⟨"FamilyChartModel", "thrown", "()I"⟩ : Cond) ∈ gw := gw_t 1495 (by decide +kernel) rfl
set_option maxRecDepth 100000 in
theorem tw1496 : (.instanceMethod ⟨"FamilyChartModel", "thrown", "()I"⟩ : Cond) ∈ gw := gw_t 1496 (by decide +kernel) rfl
set_option maxRecDepth 100000 in
theorem tw1497 : (.selects "FamilyChartModel" ⟨"FamilyChartModel", "thrown", "()I"⟩ ⟨"FamilyChartModel", "thrown", "()I"⟩ : Cond) ∈ gw := gw_t 1497 (by decide +kernel) rfl
set_option maxRecDepth 100000 in
theorem tw1498 : (.code ⟨"FamilyChartModel", "thrown", "()I"⟩ prog_12_method_2_code 1 (Option.some ClassFile.FieldType.int) : Cond) ∈ gw := gw_t 1498 (by decide +kernel) rfl
set_option maxRecDepth 100000 in
theorem tw1499 : (.methodLink "FamilyChartLaw" 119 ⟨"FamilyChartModel", "count", "(I)I"⟩ : Cond) ∈ gw := gw_t 1499 (by decide +kernel) rfl
set_option maxRecDepth 100000 in
theorem tw1500 : (.instanceMethod ⟨"FamilyChartModel", "count", "(I)I"⟩ : Cond) ∈ gw := gw_t 1500 (by decide +kernel) rfl
set_option maxRecDepth 100000 in
theorem tw1501 : (.selects "FamilyChartModel" ⟨"FamilyChartModel", "count", "(I)I"⟩ ⟨"FamilyChartModel", "count", "(I)I"⟩ : Cond) ∈ gw := gw_t 1501 (by decide +kernel) rfl
set_option maxRecDepth 100000 in
theorem tw1502 : (.code ⟨"FamilyChartModel", "count", "(I)I"⟩ prog_12_method_51_code 2 (Option.some ClassFile.FieldType.int) : Cond) ∈ gw := gw_t 1502 (by decide +kernel) rfl
set_option maxRecDepth 100000 in
theorem tw1503 : (.methodLink "FamilyChartModel" 190 ⟨"FamilyChartModel", "lay", "()V"⟩ : Cond) ∈ gw := gw_t 1503 (by decide +kernel) rfl
set_option maxRecDepth 100000 in
theorem tw1505 : (.instanceMethod ⟨"FamilyChartModel", "lay", "()V"⟩ : Cond) ∈ gw := gw_t 1505 (by decide +kernel) rfl
set_option maxRecDepth 100000 in
theorem tw1506 : (.code ⟨"FamilyChartModel", "lay", "()V"⟩ prog_12_method_22_code 1 (Option.none : Option ClassFile.FieldType) : Cond) ∈ gw := gw_t 1506 (by decide +kernel) rfl
set_option maxRecDepth 100000 in
theorem tw1507 : (.methodLink "FamilyChartModel" 138 ⟨"FamilyChartModel", "layGenerations", "()V"⟩ : Cond) ∈ gw := gw_t 1507 (by decide +kernel) rfl
set_option maxRecDepth 100000 in
theorem tw1509 : (.instanceMethod ⟨"FamilyChartModel", "layGenerations", "()V"⟩ : Cond) ∈ gw := gw_t 1509 (by decide +kernel) rfl
set_option maxRecDepth 100000 in
theorem tw1510 : (.code ⟨"FamilyChartModel", "layGenerations", "()V"⟩ prog_12_method_19_code 4 (Option.none : Option ClassFile.FieldType) : Cond) ∈ gw := gw_t 1510 (by decide +kernel) rfl
set_option maxRecDepth 100000 in
theorem tw1511 : (.methodLink "FamilyChartModel" 121 ⟨"FamilyChartModel", "persons", "()I"⟩ : Cond) ∈ gw := gw_t 1511 (by decide +kernel) rfl
set_option maxRecDepth 100000 in
theorem tw1513 : (.instanceMethod ⟨"FamilyChartModel", "persons", "()I"⟩ : Cond) ∈ gw := gw_t 1513 (by decide +kernel) rfl
set_option maxRecDepth 100000 in
theorem tw1514 : (.code ⟨"FamilyChartModel", "persons", "()I"⟩ prog_12_method_5_code 1 (Option.some ClassFile.FieldType.int) : Cond) ∈ gw := gw_t 1514 (by decide +kernel) rfl
set_option maxRecDepth 100000 in
theorem tw1515 : (.methodLink "FamilyChartModel" 117 ⟨"FamilyChartModel", "parentsOf", "(I)I"⟩ : Cond) ∈ gw := gw_t 1515 (by decide +kernel) rfl
set_option maxRecDepth 100000 in
theorem tw1517 : (.instanceMethod ⟨"FamilyChartModel", "parentsOf", "(I)I"⟩ : Cond) ∈ gw := gw_t 1517 (by decide +kernel) rfl
set_option maxRecDepth 100000 in
theorem tw1518 : (.code ⟨"FamilyChartModel", "parentsOf", "(I)I"⟩ prog_12_method_9_code 2 (Option.some ClassFile.FieldType.int) : Cond) ∈ gw := gw_t 1518 (by decide +kernel) rfl
set_option maxRecDepth 100000 in
theorem tw1519 : (.methodLink "FamilyChartModel" 98 ⟨"FamilyChartModel", "ofPerson", "(II)J"⟩ : Cond) ∈ gw := gw_t 1519 (by decide +kernel) rfl
set_option maxRecDepth 100000 in
theorem tw1521 : (.instanceMethod ⟨"FamilyChartModel", "ofPerson", "(II)J"⟩ : Cond) ∈ gw := gw_t 1521 (by decide +kernel) rfl
set_option maxRecDepth 100000 in
theorem tw1522 : (.code ⟨"FamilyChartModel", "ofPerson", "(II)J"⟩ prog_12_method_7_code 3 (Option.some ClassFile.FieldType.long) : Cond) ∈ gw := gw_t 1522 (by decide +kernel) rfl
set_option maxRecDepth 100000 in
theorem tw1523 : (.methodLink "FamilyChartModel" 129 ⟨"FamilyChartModel", "levelOf", "(I)I"⟩ : Cond) ∈ gw := gw_t 1523 (by decide +kernel) rfl
set_option maxRecDepth 100000 in
theorem tw1525 : (.instanceMethod ⟨"FamilyChartModel", "levelOf", "(I)I"⟩ : Cond) ∈ gw := gw_t 1525 (by decide +kernel) rfl
set_option maxRecDepth 100000 in
theorem tw1526 : (.code ⟨"FamilyChartModel", "levelOf", "(I)I"⟩ prog_12_method_18_code 2 (Option.some ClassFile.FieldType.int) : Cond) ∈ gw := gw_t 1526 (by decide +kernel) rfl
set_option maxRecDepth 100000 in
theorem tw1527 : (.methodLink "FamilyChartModel" 102 ⟨"FamilyChartModel", "partner", "(II)I"⟩ : Cond) ∈ gw := gw_t 1527 (by decide +kernel) rfl
set_option maxRecDepth 100000 in
theorem tw1529 : (.instanceMethod ⟨"FamilyChartModel", "partner", "(II)I"⟩ : Cond) ∈ gw := gw_t 1529 (by decide +kernel) rfl
set_option maxRecDepth 100000 in
theorem tw1530 : (.code ⟨"FamilyChartModel", "partner", "(II)I"⟩ prog_12_method_10_code 3 (Option.some ClassFile.FieldType.int) : Cond) ∈ gw := gw_t 1530 (by decide +kernel) rfl
set_option maxRecDepth 100000 in
theorem tw1531 : (.methodLink "FamilyChartModel" 124 ⟨"java/lang/Math", "max", "(II)I"⟩ : Cond) ∈ gw := gw_t 1531 (by decide +kernel) rfl
set_option maxRecDepth 100000 in
theorem tw1532 : (.methodLink "FamilyChartModel" 110 ⟨"FamilyChartModel", "unions", "()I"⟩ : Cond) ∈ gw := gw_t 1532 (by decide +kernel) rfl
set_option maxRecDepth 100000 in
theorem tw1534 : (.instanceMethod ⟨"FamilyChartModel", "unions", "()I"⟩ : Cond) ∈ gw := gw_t 1534 (by decide +kernel) rfl
set_option maxRecDepth 100000 in
theorem tw1535 : (.code ⟨"FamilyChartModel", "unions", "()I"⟩ prog_12_method_6_code 1 (Option.some ClassFile.FieldType.int) : Cond) ∈ gw := gw_t 1535 (by decide +kernel) rfl
set_option maxRecDepth 100000 in
theorem tw1536 : (.methodLink "FamilyChartModel" 141 ⟨"FamilyChartModel", "layBoxes", "()V"⟩ : Cond) ∈ gw := gw_t 1536 (by decide +kernel) rfl
set_option maxRecDepth 100000 in
theorem tw1538 : (.instanceMethod ⟨"FamilyChartModel", "layBoxes", "()V"⟩ : Cond) ∈ gw := gw_t 1538 (by decide +kernel) rfl
set_option maxRecDepth 100000 in
theorem tw1539 : (.code ⟨"FamilyChartModel", "layBoxes", "()V"⟩ prog_12_method_21_code 3 (Option.none : Option ClassFile.FieldType) : Cond) ∈ gw := gw_t 1539 (by decide +kernel) rfl
set_option maxRecDepth 100000 in
theorem tw1540 : (.methodLink "FamilyChartModel" 135 ⟨"FamilyChartModel", "referred", "(I)I"⟩ : Cond) ∈ gw := gw_t 1540 (by decide +kernel) rfl
set_option maxRecDepth 100000 in
theorem tw1542 : (.instanceMethod ⟨"FamilyChartModel", "referred", "(I)I"⟩ : Cond) ∈ gw := gw_t 1542 (by decide +kernel) rfl
set_option maxRecDepth 100000 in
theorem tw1543 : (.code ⟨"FamilyChartModel", "referred", "(I)I"⟩ prog_12_method_20_code 4 (Option.some ClassFile.FieldType.int) : Cond) ∈ gw := gw_t 1543 (by decide +kernel) rfl
set_option maxRecDepth 100000 in
theorem tw1544 : (.methodLink "FamilyChartModel" 144 ⟨"FamilyChartModel", "layPlaces", "()V"⟩ : Cond) ∈ gw := gw_t 1544 (by decide +kernel) rfl
set_option maxRecDepth 100000 in
theorem tw1546 : (.instanceMethod ⟨"FamilyChartModel", "layPlaces", "()V"⟩ : Cond) ∈ gw := gw_t 1546 (by decide +kernel) rfl
set_option maxRecDepth 100000 in
theorem tw1547 : (.code ⟨"FamilyChartModel", "layPlaces", "()V"⟩ prog_12_method_23_code 2 (Option.none : Option ClassFile.FieldType) : Cond) ∈ gw := gw_t 1547 (by decide +kernel) rfl
set_option maxRecDepth 100000 in
theorem tw1548 : (.methodLink "FamilyChartModel" 147 ⟨"FamilyChartModel", "placeOf", "(I)I"⟩ : Cond) ∈ gw := gw_t 1548 (by decide +kernel) rfl
set_option maxRecDepth 100000 in
theorem tw1550 : (.instanceMethod ⟨"FamilyChartModel", "placeOf", "(I)I"⟩ : Cond) ∈ gw := gw_t 1550 (by decide +kernel) rfl
set_option maxRecDepth 100000 in
theorem tw1551 : (.code ⟨"FamilyChartModel", "placeOf", "(I)I"⟩ prog_12_method_25_code 2 (Option.some ClassFile.FieldType.int) : Cond) ∈ gw := gw_t 1551 (by decide +kernel) rfl
set_option maxRecDepth 100000 in
theorem tw1552 : (.methodLink "FamilyChartModel" 227 ⟨"FamilyChartModel", "boxCount", "(I)I"⟩ : Cond) ∈ gw := gw_t 1552 (by decide +kernel) rfl
set_option maxRecDepth 100000 in
theorem tw1554 : (.instanceMethod ⟨"FamilyChartModel", "boxCount", "(I)I"⟩ : Cond) ∈ gw := gw_t 1554 (by decide +kernel) rfl
set_option maxRecDepth 100000 in
theorem tw1555 : (.code ⟨"FamilyChartModel", "boxCount", "(I)I"⟩ prog_12_method_48_code 4 (Option.some ClassFile.FieldType.int) : Cond) ∈ gw := gw_t 1555 (by decide +kernel) rfl
set_option maxRecDepth 100000 in
theorem tw1556 : (.methodLink "FamilyChartModel" 230 ⟨"FamilyChartModel", "personsWithout", "(Z)I"⟩ : Cond) ∈ gw := gw_t 1556 (by decide +kernel) rfl
set_option maxRecDepth 100000 in
theorem tw1558 : (.instanceMethod ⟨"FamilyChartModel", "personsWithout", "(Z)I"⟩ : Cond) ∈ gw := gw_t 1558 (by decide +kernel) rfl
set_option maxRecDepth 100000 in
theorem tw1559 : (.code ⟨"FamilyChartModel", "personsWithout", "(Z)I"⟩ prog_12_method_50_code 5 (Option.some ClassFile.FieldType.int) : Cond) ∈ gw := gw_t 1559 (by decide +kernel) rfl
set_option maxRecDepth 100000 in
theorem tw1560 : (.methodLink "FamilyChartModel" 224 ⟨"FamilyChartModel", "childrenOf", "(I)I"⟩ : Cond) ∈ gw := gw_t 1560 (by decide +kernel) rfl
set_option maxRecDepth 100000 in
theorem tw1562 : (.instanceMethod ⟨"FamilyChartModel", "childrenOf", "(I)I"⟩ : Cond) ∈ gw := gw_t 1562 (by decide +kernel) rfl
set_option maxRecDepth 100000 in
theorem tw1563 : (.code ⟨"FamilyChartModel", "childrenOf", "(I)I"⟩ prog_12_method_49_code 4 (Option.some ClassFile.FieldType.int) : Cond) ∈ gw := gw_t 1563 (by decide +kernel) rfl
set_option maxRecDepth 100000 in
theorem tw1564 : (.methodLink "FamilyChartModel" 113 ⟨"FamilyChartModel", "isPartner", "(II)Z"⟩ : Cond) ∈ gw := gw_t 1564 (by decide +kernel) rfl
set_option maxRecDepth 100000 in
theorem tw1566 : (.instanceMethod ⟨"FamilyChartModel", "isPartner", "(II)Z"⟩ : Cond) ∈ gw := gw_t 1566 (by decide +kernel) rfl
set_option maxRecDepth 100000 in
theorem tw1567 : (.code ⟨"FamilyChartModel", "isPartner", "(II)Z"⟩ prog_12_method_11_code 3 (Option.some ClassFile.FieldType.boolean) : Cond) ∈ gw := gw_t 1567 (by decide +kernel) rfl
set_option maxRecDepth 100000 in
theorem tw1568 : (.methodLink "FamilyChartModel" 221 ⟨"FamilyChartModel", "childMask", "(I)I"⟩ : Cond) ∈ gw := gw_t 1568 (by decide +kernel) rfl
set_option maxRecDepth 100000 in
theorem tw1570 : (.instanceMethod ⟨"FamilyChartModel", "childMask", "(I)I"⟩ : Cond) ∈ gw := gw_t 1570 (by decide +kernel) rfl
set_option maxRecDepth 100000 in
theorem tw1571 : (.code ⟨"FamilyChartModel", "childMask", "(I)I"⟩ prog_12_method_16_code 4 (Option.some ClassFile.FieldType.int) : Cond) ∈ gw := gw_t 1571 (by decide +kernel) rfl
set_option maxRecDepth 100000 in
theorem tw1572 : (.methodLink "FamilyChartLaw" 123 ⟨"FamilyChartModel", "person", "(II)I"⟩ : Cond) ∈ gw := gw_t 1572 (by decide +kernel) rfl
set_option maxRecDepth 100000 in
theorem tw1573 : (.instanceMethod ⟨"FamilyChartModel", "person", "(II)I"⟩ : Cond) ∈ gw := gw_t 1573 (by decide +kernel) rfl
set_option maxRecDepth 100000 in
theorem tw1574 : (.selects "FamilyChartModel" ⟨"FamilyChartModel", "person", "(II)I"⟩ ⟨"FamilyChartModel", "person", "(II)I"⟩ : Cond) ∈ gw := gw_t 1574 (by decide +kernel) rfl
set_option maxRecDepth 100000 in
theorem tw1575 : (.code ⟨"FamilyChartModel", "person", "(II)I"⟩ prog_12_method_53_code 3 (Option.some ClassFile.FieldType.int) : Cond) ∈ gw := gw_t 1575 (by decide +kernel) rfl
set_option maxRecDepth 100000 in
theorem tw1576 : (.methodLink "FamilyChartModel" 234 ⟨"FamilyChartModel", "isPerson", "(I)Z"⟩ : Cond) ∈ gw := gw_t 1576 (by decide +kernel) rfl
set_option maxRecDepth 100000 in
theorem tw1578 : (.instanceMethod ⟨"FamilyChartModel", "isPerson", "(I)Z"⟩ : Cond) ∈ gw := gw_t 1578 (by decide +kernel) rfl
set_option maxRecDepth 100000 in
theorem tw1579 : (.code ⟨"FamilyChartModel", "isPerson", "(I)Z"⟩ prog_12_method_12_code 2 (Option.some ClassFile.FieldType.boolean) : Cond) ∈ gw := gw_t 1579 (by decide +kernel) rfl
set_option maxRecDepth 100000 in
theorem tw1580 : (.methodLink "FamilyChartModel" 106 ⟨"FamilyChartModel", "inRange", "(JJJ)Z"⟩ : Cond) ∈ gw := gw_t 1580 (by decide +kernel) rfl
set_option maxRecDepth 100000 in
theorem tw1581 : (.static ⟨"FamilyChartModel", "inRange", "(JJJ)Z"⟩ : Cond) ∈ gw := gw_t 1581 (by decide +kernel) rfl
set_option maxRecDepth 100000 in
theorem tw1582 : (.code ⟨"FamilyChartModel", "inRange", "(JJJ)Z"⟩ prog_12_method_4_code 6 (Option.some ClassFile.FieldType.boolean) : Cond) ∈ gw := gw_t 1582 (by decide +kernel) rfl
set_option maxRecDepth 100000 in
theorem tw1583 : (.constantLong "FamilyChartModel" 238 (4 : Int64) : Cond) ∈ gw := gw_t 1583 (by decide +kernel) rfl
set_option maxRecDepth 100000 in
theorem tw1584 : (.methodLink "FamilyChartModel" 240 ⟨"FamilyChartModel", "raise", "(I)I"⟩ : Cond) ∈ gw := gw_t 1584 (by decide +kernel) rfl
set_option maxRecDepth 100000 in
theorem tw1586 : (.instanceMethod ⟨"FamilyChartModel", "raise", "(I)I"⟩ : Cond) ∈ gw := gw_t 1586 (by decide +kernel) rfl
set_option maxRecDepth 100000 in
theorem tw1587 : (.code ⟨"FamilyChartModel", "raise", "(I)I"⟩ prog_12_method_3_code 2 (Option.some ClassFile.FieldType.int) : Cond) ∈ gw := gw_t 1587 (by decide +kernel) rfl
set_option maxRecDepth 100000 in
theorem tw1588 : (.methodLink "FamilyChartModel" 243 ⟨"FamilyChartModel", "unionsOf", "(I)I"⟩ : Cond) ∈ gw := gw_t 1588 (by decide +kernel) rfl
set_option maxRecDepth 100000 in
theorem tw1590 : (.instanceMethod ⟨"FamilyChartModel", "unionsOf", "(I)I"⟩ : Cond) ∈ gw := gw_t 1590 (by decide +kernel) rfl
set_option maxRecDepth 100000 in
theorem tw1591 : (.code ⟨"FamilyChartModel", "unionsOf", "(I)I"⟩ prog_12_method_52_code 4 (Option.some ClassFile.FieldType.int) : Cond) ∈ gw := gw_t 1591 (by decide +kernel) rfl
set_option maxRecDepth 100000 in
theorem tw1592 : (.methodLink "FamilyChartLaw" 126 ⟨"FamilyChartModel", "union", "(II)I"⟩ : Cond) ∈ gw := gw_t 1592 (by decide +kernel) rfl
set_option maxRecDepth 100000 in
theorem tw1593 : (.instanceMethod ⟨"FamilyChartModel", "union", "(II)I"⟩ : Cond) ∈ gw := gw_t 1593 (by decide +kernel) rfl
set_option maxRecDepth 100000 in
theorem tw1594 : (.selects "FamilyChartModel" ⟨"FamilyChartModel", "union", "(II)I"⟩ ⟨"FamilyChartModel", "union", "(II)I"⟩ : Cond) ∈ gw := gw_t 1594 (by decide +kernel) rfl
set_option maxRecDepth 100000 in
theorem tw1595 : (.code ⟨"FamilyChartModel", "union", "(II)I"⟩ prog_12_method_54_code 3 (Option.some ClassFile.FieldType.int) : Cond) ∈ gw := gw_t 1595 (by decide +kernel) rfl
set_option maxRecDepth 100000 in
theorem tw1596 : (.methodLink "FamilyChartModel" 246 ⟨"FamilyChartModel", "isUnion", "(I)Z"⟩ : Cond) ∈ gw := gw_t 1596 (by decide +kernel) rfl
set_option maxRecDepth 100000 in
theorem tw1598 : (.instanceMethod ⟨"FamilyChartModel", "isUnion", "(I)Z"⟩ : Cond) ∈ gw := gw_t 1598 (by decide +kernel) rfl
set_option maxRecDepth 100000 in
theorem tw1599 : (.code ⟨"FamilyChartModel", "isUnion", "(I)Z"⟩ prog_12_method_13_code 2 (Option.some ClassFile.FieldType.boolean) : Cond) ∈ gw := gw_t 1599 (by decide +kernel) rfl
set_option maxRecDepth 100000 in
theorem tw1600 : (.constantLong "FamilyChartModel" 249 (6 : Int64) : Cond) ∈ gw := gw_t 1600 (by decide +kernel) rfl
set_option maxRecDepth 100000 in
theorem tw1601 : (.methodLink "FamilyChartModel" 215 ⟨"FamilyChartModel", "layColumns", "()V"⟩ : Cond) ∈ gw := gw_t 1601 (by decide +kernel) rfl
set_option maxRecDepth 100000 in
theorem tw1603 : (.instanceMethod ⟨"FamilyChartModel", "layColumns", "()V"⟩ : Cond) ∈ gw := gw_t 1603 (by decide +kernel) rfl
set_option maxRecDepth 100000 in
theorem tw1604 : (.code ⟨"FamilyChartModel", "layColumns", "()V"⟩ prog_12_method_41_code 5 (Option.none : Option ClassFile.FieldType) : Cond) ∈ gw := gw_t 1604 (by decide +kernel) rfl
set_option maxRecDepth 100000 in
theorem tw1605 : (.methodLink "FamilyChartModel" 153 ⟨"FamilyChartModel", "boxIn", "(II)I"⟩ : Cond) ∈ gw := gw_t 1605 (by decide +kernel) rfl
set_option maxRecDepth 100000 in
theorem tw1607 : (.instanceMethod ⟨"FamilyChartModel", "boxIn", "(II)I"⟩ : Cond) ∈ gw := gw_t 1607 (by decide +kernel) rfl
set_option maxRecDepth 100000 in
theorem tw1608 : (.code ⟨"FamilyChartModel", "boxIn", "(II)I"⟩ prog_12_method_26_code 3 (Option.some ClassFile.FieldType.int) : Cond) ∈ gw := gw_t 1608 (by decide +kernel) rfl
set_option maxRecDepth 100000 in
theorem tw1609 : (.methodLink "FamilyChartModel" 193 ⟨"FamilyChartModel", "wanted", "(I)I"⟩ : Cond) ∈ gw := gw_t 1609 (by decide +kernel) rfl
set_option maxRecDepth 100000 in
theorem tw1611 : (.instanceMethod ⟨"FamilyChartModel", "wanted", "(I)I"⟩ : Cond) ∈ gw := gw_t 1611 (by decide +kernel) rfl
set_option maxRecDepth 100000 in
theorem tw1612 : (.code ⟨"FamilyChartModel", "wanted", "(I)I"⟩ prog_12_method_40_code 3 (Option.some ClassFile.FieldType.int) : Cond) ∈ gw := gw_t 1612 (by decide +kernel) rfl
set_option maxRecDepth 100000 in
theorem tw1613 : (.methodLink "FamilyChartModel" 187 ⟨"FamilyChartModel", "unionColumn", "(I)I"⟩ : Cond) ∈ gw := gw_t 1613 (by decide +kernel) rfl
set_option maxRecDepth 100000 in
theorem tw1615 : (.instanceMethod ⟨"FamilyChartModel", "unionColumn", "(I)I"⟩ : Cond) ∈ gw := gw_t 1615 (by decide +kernel) rfl
set_option maxRecDepth 100000 in
theorem tw1616 : (.code ⟨"FamilyChartModel", "unionColumn", "(I)I"⟩ prog_12_method_39_code 2 (Option.some ClassFile.FieldType.int) : Cond) ∈ gw := gw_t 1616 (by decide +kernel) rfl
set_option maxRecDepth 100000 in
theorem tw1617 : (.methodLink "FamilyChartModel" 150 ⟨"FamilyChartModel", "partnerBox", "(II)I"⟩ : Cond) ∈ gw := gw_t 1617 (by decide +kernel) rfl
set_option maxRecDepth 100000 in
theorem tw1619 : (.instanceMethod ⟨"FamilyChartModel", "partnerBox", "(II)I"⟩ : Cond) ∈ gw := gw_t 1619 (by decide +kernel) rfl
set_option maxRecDepth 100000 in
theorem tw1620 : (.code ⟨"FamilyChartModel", "partnerBox", "(II)I"⟩ prog_12_method_28_code 4 (Option.some ClassFile.FieldType.int) : Cond) ∈ gw := gw_t 1620 (by decide +kernel) rfl
set_option maxRecDepth 100000 in
theorem tw1621 : (.methodLink "FamilyChartModel" 184 ⟨"FamilyChartModel", "middleColumn", "(I)I"⟩ : Cond) ∈ gw := gw_t 1621 (by decide +kernel) rfl
set_option maxRecDepth 100000 in
theorem tw1623 : (.instanceMethod ⟨"FamilyChartModel", "middleColumn", "(I)I"⟩ : Cond) ∈ gw := gw_t 1623 (by decide +kernel) rfl
set_option maxRecDepth 100000 in
theorem tw1624 : (.code ⟨"FamilyChartModel", "middleColumn", "(I)I"⟩ prog_12_method_38_code 2 (Option.some ClassFile.FieldType.int) : Cond) ∈ gw := gw_t 1624 (by decide +kernel) rfl
set_option maxRecDepth 100000 in
theorem tw1625 : (.methodLink "FamilyChartModel" 181 ⟨"FamilyChartModel", "widthOf", "(I)I"⟩ : Cond) ∈ gw := gw_t 1625 (by decide +kernel) rfl
set_option maxRecDepth 100000 in
theorem tw1627 : (.instanceMethod ⟨"FamilyChartModel", "widthOf", "(I)I"⟩ : Cond) ∈ gw := gw_t 1627 (by decide +kernel) rfl
set_option maxRecDepth 100000 in
theorem tw1628 : (.code ⟨"FamilyChartModel", "widthOf", "(I)I"⟩ prog_12_method_37_code 2 (Option.some ClassFile.FieldType.int) : Cond) ∈ gw := gw_t 1628 (by decide +kernel) rfl
set_option maxRecDepth 100000 in
theorem tw1629 : (.methodLink "FamilyChartModel" 178 ⟨"FamilyChartModel", "personOf", "(I)I"⟩ : Cond) ∈ gw := gw_t 1629 (by decide +kernel) rfl
set_option maxRecDepth 100000 in
theorem tw1631 : (.instanceMethod ⟨"FamilyChartModel", "personOf", "(I)I"⟩ : Cond) ∈ gw := gw_t 1631 (by decide +kernel) rfl
set_option maxRecDepth 100000 in
theorem tw1632 : (.code ⟨"FamilyChartModel", "personOf", "(I)I"⟩ prog_12_method_27_code 2 (Option.some ClassFile.FieldType.int) : Cond) ∈ gw := gw_t 1632 (by decide +kernel) rfl
set_option maxRecDepth 100000 in
theorem tw1633 : (.methodLink "FamilyChartModel" 251 ⟨"FamilyChartModel", "members", "(I)I"⟩ : Cond) ∈ gw := gw_t 1633 (by decide +kernel) rfl
set_option maxRecDepth 100000 in
theorem tw1634 : (.static ⟨"FamilyChartModel", "members", "(I)I"⟩ : Cond) ∈ gw := gw_t 1634 (by decide +kernel) rfl
set_option maxRecDepth 100000 in
theorem tw1635 : (.code ⟨"FamilyChartModel", "members", "(I)I"⟩ prog_12_method_17_code 3 (Option.some ClassFile.FieldType.int) : Cond) ∈ gw := gw_t 1635 (by decide +kernel) rfl
set_option maxRecDepth 100000 in
theorem tw1636 : (.methodLink "FamilyChartModel" 169 ⟨"FamilyChartModel", "middle", "(I)I"⟩ : Cond) ∈ gw := gw_t 1636 (by decide +kernel) rfl
set_option maxRecDepth 100000 in
theorem tw1638 : (.instanceMethod ⟨"FamilyChartModel", "middle", "(I)I"⟩ : Cond) ∈ gw := gw_t 1638 (by decide +kernel) rfl
set_option maxRecDepth 100000 in
theorem tw1639 : (.code ⟨"FamilyChartModel", "middle", "(I)I"⟩ prog_12_method_29_code 2 (Option.some ClassFile.FieldType.int) : Cond) ∈ gw := gw_t 1639 (by decide +kernel) rfl
set_option maxRecDepth 100000 in
theorem tw1640 : (.methodLink "FamilyChartLaw" 129 ⟨"FamilyChartModel", "children", "(I)I"⟩ : Cond) ∈ gw := gw_t 1640 (by decide +kernel) rfl
set_option maxRecDepth 100000 in
theorem tw1641 : (.instanceMethod ⟨"FamilyChartModel", "children", "(I)I"⟩ : Cond) ∈ gw := gw_t 1641 (by decide +kernel) rfl
set_option maxRecDepth 100000 in
theorem tw1642 : (.selects "FamilyChartModel" ⟨"FamilyChartModel", "children", "(I)I"⟩ ⟨"FamilyChartModel", "children", "(I)I"⟩ : Cond) ∈ gw := gw_t 1642 (by decide +kernel) rfl
set_option maxRecDepth 100000 in
theorem tw1643 : (.code ⟨"FamilyChartModel", "children", "(I)I"⟩ prog_12_method_55_code 2 (Option.some ClassFile.FieldType.int) : Cond) ∈ gw := gw_t 1643 (by decide +kernel) rfl
set_option maxRecDepth 100000 in
theorem tw1644 : (.methodLink "FamilyChartLaw" 132 ⟨"FamilyChartModel", "ancestors", "(I)I"⟩ : Cond) ∈ gw := gw_t 1644 (by decide +kernel) rfl
set_option maxRecDepth 100000 in
theorem tw1645 : (.instanceMethod ⟨"FamilyChartModel", "ancestors", "(I)I"⟩ : Cond) ∈ gw := gw_t 1645 (by decide +kernel) rfl
set_option maxRecDepth 100000 in
theorem tw1646 : (.selects "FamilyChartModel" ⟨"FamilyChartModel", "ancestors", "(I)I"⟩ ⟨"FamilyChartModel", "ancestors", "(I)I"⟩ : Cond) ∈ gw := gw_t 1646 (by decide +kernel) rfl
set_option maxRecDepth 100000 in
theorem tw1647 : (.code ⟨"FamilyChartModel", "ancestors", "(I)I"⟩ prog_12_method_56_code 2 (Option.some ClassFile.FieldType.int) : Cond) ∈ gw := gw_t 1647 (by decide +kernel) rfl
set_option maxRecDepth 100000 in
theorem tw1648 : (.methodLink "FamilyChartModel" 254 ⟨"FamilyChartModel", "ancestorMask", "(I)I"⟩ : Cond) ∈ gw := gw_t 1648 (by decide +kernel) rfl
set_option maxRecDepth 100000 in
theorem tw1650 : (.instanceMethod ⟨"FamilyChartModel", "ancestorMask", "(I)I"⟩ : Cond) ∈ gw := gw_t 1650 (by decide +kernel) rfl
set_option maxRecDepth 100000 in
theorem tw1651 : (.code ⟨"FamilyChartModel", "ancestorMask", "(I)I"⟩ prog_12_method_15_code 8 (Option.some ClassFile.FieldType.int) : Cond) ∈ gw := gw_t 1651 (by decide +kernel) rfl
set_option maxRecDepth 100000 in
theorem tw1652 : (.methodLink "FamilyChartLaw" 135 ⟨"FamilyChartModel", "descendants", "(I)I"⟩ : Cond) ∈ gw := gw_t 1652 (by decide +kernel) rfl
set_option maxRecDepth 100000 in
theorem tw1653 : (.instanceMethod ⟨"FamilyChartModel", "descendants", "(I)I"⟩ : Cond) ∈ gw := gw_t 1653 (by decide +kernel) rfl
set_option maxRecDepth 100000 in
theorem tw1654 : (.selects "FamilyChartModel" ⟨"FamilyChartModel", "descendants", "(I)I"⟩ ⟨"FamilyChartModel", "descendants", "(I)I"⟩ : Cond) ∈ gw := gw_t 1654 (by decide +kernel) rfl
set_option maxRecDepth 100000 in
theorem tw1655 : (.code ⟨"FamilyChartModel", "descendants", "(I)I"⟩ prog_12_method_58_code 2 (Option.some ClassFile.FieldType.int) : Cond) ∈ gw := gw_t 1655 (by decide +kernel) rfl
set_option maxRecDepth 100000 in
theorem tw1656 : (.methodLink "FamilyChartModel" 257 ⟨"FamilyChartModel", "descendantMask", "(I)I"⟩ : Cond) ∈ gw := gw_t 1656 (by decide +kernel) rfl
set_option maxRecDepth 100000 in
theorem tw1658 : (.instanceMethod ⟨"FamilyChartModel", "descendantMask", "(I)I"⟩ : Cond) ∈ gw := gw_t 1658 (by decide +kernel) rfl
set_option maxRecDepth 100000 in
theorem tw1659 : (.code ⟨"FamilyChartModel", "descendantMask", "(I)I"⟩ prog_12_method_57_code 4 (Option.some ClassFile.FieldType.int) : Cond) ∈ gw := gw_t 1659 (by decide +kernel) rfl
set_option maxRecDepth 100000 in
theorem tw1660 : (.methodLink "FamilyChartLaw" 138 ⟨"FamilyChartModel", "kinship", "(II)J"⟩ : Cond) ∈ gw := gw_t 1660 (by decide +kernel) rfl
set_option maxRecDepth 100000 in
theorem tw1661 : (.instanceMethod ⟨"FamilyChartModel", "kinship", "(II)J"⟩ : Cond) ∈ gw := gw_t 1661 (by decide +kernel) rfl
set_option maxRecDepth 100000 in
theorem tw1662 : (.selects "FamilyChartModel" ⟨"FamilyChartModel", "kinship", "(II)J"⟩ ⟨"FamilyChartModel", "kinship", "(II)J"⟩ : Cond) ∈ gw := gw_t 1662 (by decide +kernel) rfl
set_option maxRecDepth 100000 in
theorem tw1663 : (.code ⟨"FamilyChartModel", "kinship", "(II)J"⟩ prog_12_method_63_code 3 (Option.some ClassFile.FieldType.long) : Cond) ∈ gw := gw_t 1663 (by decide +kernel) rfl
set_option maxRecDepth 100000 in
theorem tw1664 : (.methodLink "FamilyChartModel" 272 ⟨"FamilyChartModel", "arePersons", "(II)Z"⟩ : Cond) ∈ gw := gw_t 1664 (by decide +kernel) rfl
set_option maxRecDepth 100000 in
theorem tw1666 : (.instanceMethod ⟨"FamilyChartModel", "arePersons", "(II)Z"⟩ : Cond) ∈ gw := gw_t 1666 (by decide +kernel) rfl
set_option maxRecDepth 100000 in
theorem tw1667 : (.code ⟨"FamilyChartModel", "arePersons", "(II)Z"⟩ prog_12_method_62_code 3 (Option.some ClassFile.FieldType.boolean) : Cond) ∈ gw := gw_t 1667 (by decide +kernel) rfl
set_option maxRecDepth 100000 in
theorem tw1668 : (.methodLink "FamilyChartModel" 275 ⟨"FamilyChartModel", "forgetKinships", "()V"⟩ : Cond) ∈ gw := gw_t 1668 (by decide +kernel) rfl
set_option maxRecDepth 100000 in
theorem tw1670 : (.instanceMethod ⟨"FamilyChartModel", "forgetKinships", "()V"⟩ : Cond) ∈ gw := gw_t 1670 (by decide +kernel) rfl
set_option maxRecDepth 100000 in
theorem tw1671 : (.code ⟨"FamilyChartModel", "forgetKinships", "()V"⟩ prog_12_method_59_code 2 (Option.none : Option ClassFile.FieldType) : Cond) ∈ gw := gw_t 1671 (by decide +kernel) rfl
set_option maxRecDepth 100000 in
theorem tw1672 : (.constantLong "FamilyChartModel" 260 (-1 : Int64) : Cond) ∈ gw := gw_t 1672 (by decide +kernel) rfl
set_option maxRecDepth 100000 in
theorem tw1673 : (.methodLink "FamilyChartModel" 265 ⟨"FamilyChartModel", "kinshipOf", "(II)J"⟩ : Cond) ∈ gw := gw_t 1673 (by decide +kernel) rfl
set_option maxRecDepth 100000 in
theorem tw1675 : (.instanceMethod ⟨"FamilyChartModel", "kinshipOf", "(II)J"⟩ : Cond) ∈ gw := gw_t 1675 (by decide +kernel) rfl
set_option maxRecDepth 100000 in
theorem tw1676 : (.code ⟨"FamilyChartModel", "kinshipOf", "(II)J"⟩ prog_12_method_61_code 11 (Option.some ClassFile.FieldType.long) : Cond) ∈ gw := gw_t 1676 (by decide +kernel) rfl
set_option maxRecDepth 100000 in
theorem tw1677 : (.methodLink "FamilyChartModel" 262 ⟨"FamilyChartModel", "isLater", "(II)Z"⟩ : Cond) ∈ gw := gw_t 1677 (by decide +kernel) rfl
set_option maxRecDepth 100000 in
theorem tw1679 : (.instanceMethod ⟨"FamilyChartModel", "isLater", "(II)Z"⟩ : Cond) ∈ gw := gw_t 1679 (by decide +kernel) rfl
set_option maxRecDepth 100000 in
theorem tw1680 : (.code ⟨"FamilyChartModel", "isLater", "(II)Z"⟩ prog_12_method_60_code 3 (Option.some ClassFile.FieldType.boolean) : Cond) ∈ gw := gw_t 1680 (by decide +kernel) rfl
set_option maxRecDepth 100000 in
theorem tw1681 : (.constantLong "FamilyChartModel" 268 (2 : Int64) : Cond) ∈ gw := gw_t 1681 (by decide +kernel) rfl
set_option maxRecDepth 100000 in
theorem tw1682 : (.constantLong "FamilyChartModel" 270 (549755813888 : Int64) : Cond) ∈ gw := gw_t 1682 (by decide +kernel) rfl
set_option maxRecDepth 100000 in
theorem tw1683 : (.methodLink "FamilyChartLaw" 141 ⟨"FamilyChartModel", "distance", "(II)I"⟩ : Cond) ∈ gw := gw_t 1683 (by decide +kernel) rfl
set_option maxRecDepth 100000 in
theorem tw1684 : (.instanceMethod ⟨"FamilyChartModel", "distance", "(II)I"⟩ : Cond) ∈ gw := gw_t 1684 (by decide +kernel) rfl
set_option maxRecDepth 100000 in
theorem tw1685 : (.selects "FamilyChartModel" ⟨"FamilyChartModel", "distance", "(II)I"⟩ ⟨"FamilyChartModel", "distance", "(II)I"⟩ : Cond) ∈ gw := gw_t 1685 (by decide +kernel) rfl
set_option maxRecDepth 100000 in
theorem tw1686 : (.code ⟨"FamilyChartModel", "distance", "(II)I"⟩ prog_12_method_65_code 9 (Option.some ClassFile.FieldType.int) : Cond) ∈ gw := gw_t 1686 (by decide +kernel) rfl
set_option maxRecDepth 100000 in
theorem tw1687 : (.methodLink "FamilyChartModel" 278 ⟨"FamilyChartModel", "isParent", "(II)Z"⟩ : Cond) ∈ gw := gw_t 1687 (by decide +kernel) rfl
set_option maxRecDepth 100000 in
theorem tw1689 : (.instanceMethod ⟨"FamilyChartModel", "isParent", "(II)Z"⟩ : Cond) ∈ gw := gw_t 1689 (by decide +kernel) rfl
set_option maxRecDepth 100000 in
theorem tw1690 : (.code ⟨"FamilyChartModel", "isParent", "(II)Z"⟩ prog_12_method_64_code 3 (Option.some ClassFile.FieldType.boolean) : Cond) ∈ gw := gw_t 1690 (by decide +kernel) rfl
set_option maxRecDepth 100000 in
theorem tw1691 : (.methodLink "FamilyChartLaw" 144 ⟨"FamilyChartModel", "linesTo", "(II)I"⟩ : Cond) ∈ gw := gw_t 1691 (by decide +kernel) rfl
set_option maxRecDepth 100000 in
theorem tw1692 : (.instanceMethod ⟨"FamilyChartModel", "linesTo", "(II)I"⟩ : Cond) ∈ gw := gw_t 1692 (by decide +kernel) rfl
set_option maxRecDepth 100000 in
theorem tw1693 : (.selects "FamilyChartModel" ⟨"FamilyChartModel", "linesTo", "(II)I"⟩ ⟨"FamilyChartModel", "linesTo", "(II)I"⟩ : Cond) ∈ gw := gw_t 1693 (by decide +kernel) rfl
set_option maxRecDepth 100000 in
theorem tw1694 : (.code ⟨"FamilyChartModel", "linesTo", "(II)I"⟩ prog_12_method_68_code 5 (Option.some ClassFile.FieldType.int) : Cond) ∈ gw := gw_t 1694 (by decide +kernel) rfl
set_option maxRecDepth 100000 in
theorem tw1695 : (.methodLink "FamilyChartModel" 281 ⟨"FamilyChartModel", "beginWays", "(I)V"⟩ : Cond) ∈ gw := gw_t 1695 (by decide +kernel) rfl
set_option maxRecDepth 100000 in
theorem tw1697 : (.instanceMethod ⟨"FamilyChartModel", "beginWays", "(I)V"⟩ : Cond) ∈ gw := gw_t 1697 (by decide +kernel) rfl
set_option maxRecDepth 100000 in
theorem tw1698 : (.code ⟨"FamilyChartModel", "beginWays", "(I)V"⟩ prog_12_method_66_code 3 (Option.none : Option ClassFile.FieldType) : Cond) ∈ gw := gw_t 1698 (by decide +kernel) rfl
set_option maxRecDepth 100000 in
theorem tw1699 : (.methodLink "FamilyChartModel" 284 ⟨"FamilyChartModel", "stepUp", "()V"⟩ : Cond) ∈ gw := gw_t 1699 (by decide +kernel) rfl
set_option maxRecDepth 100000 in
theorem tw1701 : (.instanceMethod ⟨"FamilyChartModel", "stepUp", "()V"⟩ : Cond) ∈ gw := gw_t 1701 (by decide +kernel) rfl
set_option maxRecDepth 100000 in
theorem tw1702 : (.code ⟨"FamilyChartModel", "stepUp", "()V"⟩ prog_12_method_67_code 3 (Option.none : Option ClassFile.FieldType) : Cond) ∈ gw := gw_t 1702 (by decide +kernel) rfl
set_option maxRecDepth 100000 in
theorem tw1703 : (.methodLink "FamilyChartLaw" 147 ⟨"FamilyChartModel", "nearestAncestor", "(II)I"⟩ : Cond) ∈ gw := gw_t 1703 (by decide +kernel) rfl
set_option maxRecDepth 100000 in
theorem tw1704 : (.instanceMethod ⟨"FamilyChartModel", "nearestAncestor", "(II)I"⟩ : Cond) ∈ gw := gw_t 1704 (by decide +kernel) rfl
set_option maxRecDepth 100000 in
theorem tw1705 : (.selects "FamilyChartModel" ⟨"FamilyChartModel", "nearestAncestor", "(II)I"⟩ ⟨"FamilyChartModel", "nearestAncestor", "(II)I"⟩ : Cond) ∈ gw := gw_t 1705 (by decide +kernel) rfl
set_option maxRecDepth 100000 in
theorem tw1706 : (.code ⟨"FamilyChartModel", "nearestAncestor", "(II)I"⟩ prog_12_method_69_code 6 (Option.some ClassFile.FieldType.int) : Cond) ∈ gw := gw_t 1706 (by decide +kernel) rfl
set_option maxRecDepth 100000 in
theorem tw1707 : (.methodLink "FamilyChartLaw" 150 ⟨"FamilyChartModel", "collapse", "(II)I"⟩ : Cond) ∈ gw := gw_t 1707 (by decide +kernel) rfl
set_option maxRecDepth 100000 in
theorem tw1708 : (.instanceMethod ⟨"FamilyChartModel", "collapse", "(II)I"⟩ : Cond) ∈ gw := gw_t 1708 (by decide +kernel) rfl
set_option maxRecDepth 100000 in
theorem tw1709 : (.selects "FamilyChartModel" ⟨"FamilyChartModel", "collapse", "(II)I"⟩ ⟨"FamilyChartModel", "collapse", "(II)I"⟩ : Cond) ∈ gw := gw_t 1709 (by decide +kernel) rfl
set_option maxRecDepth 100000 in
theorem tw1710 : (.code ⟨"FamilyChartModel", "collapse", "(II)I"⟩ prog_12_method_70_code 5 (Option.some ClassFile.FieldType.int) : Cond) ∈ gw := gw_t 1710 (by decide +kernel) rfl
set_option maxRecDepth 100000 in
theorem tw1711 : (.constantLong "FamilyChartModel" 287 (15 : Int64) : Cond) ∈ gw := gw_t 1711 (by decide +kernel) rfl
set_option maxRecDepth 100000 in
theorem tw1712 : (.methodLink "FamilyChartLaw" 153 ⟨"FamilyChartModel", "boxes", "(I)I"⟩ : Cond) ∈ gw := gw_t 1712 (by decide +kernel) rfl
set_option maxRecDepth 100000 in
theorem tw1713 : (.instanceMethod ⟨"FamilyChartModel", "boxes", "(I)I"⟩ : Cond) ∈ gw := gw_t 1713 (by decide +kernel) rfl
set_option maxRecDepth 100000 in
theorem tw1714 : (.selects "FamilyChartModel" ⟨"FamilyChartModel", "boxes", "(I)I"⟩ ⟨"FamilyChartModel", "boxes", "(I)I"⟩ : Cond) ∈ gw := gw_t 1714 (by decide +kernel) rfl
set_option maxRecDepth 100000 in
theorem tw1715 : (.code ⟨"FamilyChartModel", "boxes", "(I)I"⟩ prog_12_method_73_code 2 (Option.some ClassFile.FieldType.int) : Cond) ∈ gw := gw_t 1715 (by decide +kernel) rfl
set_option maxRecDepth 100000 in
theorem tw1716 : (.methodLink "FamilyChartModel" 289 ⟨"FamilyChartModel", "isRow", "(I)Z"⟩ : Cond) ∈ gw := gw_t 1716 (by decide +kernel) rfl
set_option maxRecDepth 100000 in
theorem tw1718 : (.instanceMethod ⟨"FamilyChartModel", "isRow", "(I)Z"⟩ : Cond) ∈ gw := gw_t 1718 (by decide +kernel) rfl
set_option maxRecDepth 100000 in
theorem tw1719 : (.code ⟨"FamilyChartModel", "isRow", "(I)Z"⟩ prog_12_method_71_code 2 (Option.some ClassFile.FieldType.boolean) : Cond) ∈ gw := gw_t 1719 (by decide +kernel) rfl
set_option maxRecDepth 100000 in
theorem tw1720 : (.methodLink "FamilyChartLaw" 157 ⟨"FamilyChartModel", "box", "(III)I"⟩ : Cond) ∈ gw := gw_t 1720 (by decide +kernel) rfl
set_option maxRecDepth 100000 in
theorem tw1721 : (.instanceMethod ⟨"FamilyChartModel", "box", "(III)I"⟩ : Cond) ∈ gw := gw_t 1721 (by decide +kernel) rfl
set_option maxRecDepth 100000 in
theorem tw1722 : (.selects "FamilyChartModel" ⟨"FamilyChartModel", "box", "(III)I"⟩ ⟨"FamilyChartModel", "box", "(III)I"⟩ : Cond) ∈ gw := gw_t 1722 (by decide +kernel) rfl
set_option maxRecDepth 100000 in
theorem tw1723 : (.code ⟨"FamilyChartModel", "box", "(III)I"⟩ prog_12_method_74_code 5 (Option.some ClassFile.FieldType.int) : Cond) ∈ gw := gw_t 1723 (by decide +kernel) rfl
set_option maxRecDepth 100000 in
theorem tw1724 : (.methodLink "FamilyChartModel" 292 ⟨"FamilyChartModel", "isPlace", "(II)Z"⟩ : Cond) ∈ gw := gw_t 1724 (by decide +kernel) rfl
set_option maxRecDepth 100000 in
theorem tw1726 : (.instanceMethod ⟨"FamilyChartModel", "isPlace", "(II)Z"⟩ : Cond) ∈ gw := gw_t 1726 (by decide +kernel) rfl
set_option maxRecDepth 100000 in
theorem tw1727 : (.code ⟨"FamilyChartModel", "isPlace", "(II)Z"⟩ prog_12_method_72_code 3 (Option.some ClassFile.FieldType.boolean) : Cond) ∈ gw := gw_t 1727 (by decide +kernel) rfl
set_option maxRecDepth 100000 in
theorem tw1728 : (.constantLong "FamilyChartModel" 295 (3 : Int64) : Cond) ∈ gw := gw_t 1728 (by decide +kernel) rfl
set_option maxRecDepth 100000 in
theorem tw1729 : (.methodLink "FamilyChartLaw" 160 ⟨"FamilyChartModel", "place", "(I)I"⟩ : Cond) ∈ gw := gw_t 1729 (by decide +kernel) rfl
set_option maxRecDepth 100000 in
theorem tw1730 : (.instanceMethod ⟨"FamilyChartModel", "place", "(I)I"⟩ : Cond) ∈ gw := gw_t 1730 (by decide +kernel) rfl
set_option maxRecDepth 100000 in
theorem tw1731 : (.selects "FamilyChartModel" ⟨"FamilyChartModel", "place", "(I)I"⟩ ⟨"FamilyChartModel", "place", "(I)I"⟩ : Cond) ∈ gw := gw_t 1731 (by decide +kernel) rfl
set_option maxRecDepth 100000 in
theorem tw1732 : (.code ⟨"FamilyChartModel", "place", "(I)I"⟩ prog_12_method_75_code 2 (Option.some ClassFile.FieldType.int) : Cond) ∈ gw := gw_t 1732 (by decide +kernel) rfl
set_option maxRecDepth 100000 in
theorem tw1733 : (.methodLink "FamilyChartLaw" 164 ⟨"FamilyChartModel", "crossings", "()I"⟩ : Cond) ∈ gw := gw_t 1733 (by decide +kernel) rfl
set_option maxRecDepth 100000 in
theorem tw1734 : (.instanceMethod ⟨"FamilyChartModel", "crossings", "()I"⟩ : Cond) ∈ gw := gw_t 1734 (by decide +kernel) rfl
set_option maxRecDepth 100000 in
theorem tw1735 : (.selects "FamilyChartModel" ⟨"FamilyChartModel", "crossings", "()I"⟩ ⟨"FamilyChartModel", "crossings", "()I"⟩ : Cond) ∈ gw := gw_t 1735 (by decide +kernel) rfl
set_option maxRecDepth 100000 in
theorem tw1736 : (.code ⟨"FamilyChartModel", "crossings", "()I"⟩ prog_12_method_76_code 1 (Option.some ClassFile.FieldType.int) : Cond) ∈ gw := gw_t 1736 (by decide +kernel) rfl
set_option maxRecDepth 100000 in
theorem tw1737 : (.methodLink "FamilyChartModel" 297 ⟨"FamilyChartModel", "allCrossings", "()I"⟩ : Cond) ∈ gw := gw_t 1737 (by decide +kernel) rfl
set_option maxRecDepth 100000 in
theorem tw1739 : (.instanceMethod ⟨"FamilyChartModel", "allCrossings", "()I"⟩ : Cond) ∈ gw := gw_t 1739 (by decide +kernel) rfl
set_option maxRecDepth 100000 in
theorem tw1740 : (.code ⟨"FamilyChartModel", "allCrossings", "()I"⟩ prog_12_method_36_code 3 (Option.some ClassFile.FieldType.int) : Cond) ∈ gw := gw_t 1740 (by decide +kernel) rfl
set_option maxRecDepth 100000 in
theorem tw1741 : (.methodLink "FamilyChartModel" 172 ⟨"FamilyChartModel", "crossingsIn", "(I)I"⟩ : Cond) ∈ gw := gw_t 1741 (by decide +kernel) rfl
set_option maxRecDepth 100000 in
theorem tw1743 : (.instanceMethod ⟨"FamilyChartModel", "crossingsIn", "(I)I"⟩ : Cond) ∈ gw := gw_t 1743 (by decide +kernel) rfl
set_option maxRecDepth 100000 in
theorem tw1744 : (.code ⟨"FamilyChartModel", "crossingsIn", "(I)I"⟩ prog_12_method_33_code 5 (Option.some ClassFile.FieldType.int) : Cond) ∈ gw := gw_t 1744 (by decide +kernel) rfl
set_option maxRecDepth 100000 in
theorem tw1745 : (.methodLink "FamilyChartModel" 163 ⟨"FamilyChartModel", "doCross", "(II)Z"⟩ : Cond) ∈ gw := gw_t 1745 (by decide +kernel) rfl
set_option maxRecDepth 100000 in
theorem tw1747 : (.instanceMethod ⟨"FamilyChartModel", "doCross", "(II)Z"⟩ : Cond) ∈ gw := gw_t 1747 (by decide +kernel) rfl
set_option maxRecDepth 100000 in
theorem tw1748 : (.code ⟨"FamilyChartModel", "doCross", "(II)Z"⟩ prog_12_method_32_code 8 (Option.some ClassFile.FieldType.boolean) : Cond) ∈ gw := gw_t 1748 (by decide +kernel) rfl
set_option maxRecDepth 100000 in
theorem tw1749 : (.methodLink "FamilyChartModel" 159 ⟨"FamilyChartModel", "isBetween", "(III)Z"⟩ : Cond) ∈ gw := gw_t 1749 (by decide +kernel) rfl
set_option maxRecDepth 100000 in
theorem tw1750 : (.static ⟨"FamilyChartModel", "isBetween", "(III)Z"⟩ : Cond) ∈ gw := gw_t 1750 (by decide +kernel) rfl
set_option maxRecDepth 100000 in
theorem tw1751 : (.code ⟨"FamilyChartModel", "isBetween", "(III)Z"⟩ prog_12_method_31_code 3 (Option.some ClassFile.FieldType.boolean) : Cond) ∈ gw := gw_t 1751 (by decide +kernel) rfl
set_option maxRecDepth 100000 in
theorem tw1752 : (.methodLink "FamilyChartModel" 156 ⟨"java/lang/Math", "min", "(II)I"⟩ : Cond) ∈ gw := gw_t 1752 (by decide +kernel) rfl
set_option maxRecDepth 100000 in
theorem tw1753 : (.methodLink "FamilyChartModel" 175 ⟨"FamilyChartModel", "crossingsBelow", "(I)I"⟩ : Cond) ∈ gw := gw_t 1753 (by decide +kernel) rfl
set_option maxRecDepth 100000 in
theorem tw1755 : (.instanceMethod ⟨"FamilyChartModel", "crossingsBelow", "(I)I"⟩ : Cond) ∈ gw := gw_t 1755 (by decide +kernel) rfl
set_option maxRecDepth 100000 in
theorem tw1756 : (.code ⟨"FamilyChartModel", "crossingsBelow", "(I)I"⟩ prog_12_method_35_code 7 (Option.some ClassFile.FieldType.int) : Cond) ∈ gw := gw_t 1756 (by decide +kernel) rfl
set_option maxRecDepth 100000 in
theorem tw1757 : (.methodLink "FamilyChartModel" 166 ⟨"FamilyChartModel", "isChildAt", "(II)Z"⟩ : Cond) ∈ gw := gw_t 1757 (by decide +kernel) rfl
set_option maxRecDepth 100000 in
theorem tw1759 : (.instanceMethod ⟨"FamilyChartModel", "isChildAt", "(II)Z"⟩ : Cond) ∈ gw := gw_t 1759 (by decide +kernel) rfl
set_option maxRecDepth 100000 in
theorem tw1760 : (.code ⟨"FamilyChartModel", "isChildAt", "(II)Z"⟩ prog_12_method_34_code 3 (Option.some ClassFile.FieldType.boolean) : Cond) ∈ gw := gw_t 1760 (by decide +kernel) rfl
set_option maxRecDepth 100000 in
theorem tw1761 : (.methodLink "FamilyChartLaw" 168 ⟨"FamilyChartModel", "crossingsOf", "(IZ)I"⟩ : Cond) ∈ gw := gw_t 1761 (by decide +kernel) rfl
set_option maxRecDepth 100000 in
theorem tw1762 : (.instanceMethod ⟨"FamilyChartModel", "crossingsOf", "(IZ)I"⟩ : Cond) ∈ gw := gw_t 1762 (by decide +kernel) rfl
set_option maxRecDepth 100000 in
theorem tw1763 : (.selects "FamilyChartModel" ⟨"FamilyChartModel", "crossingsOf", "(IZ)I"⟩ ⟨"FamilyChartModel", "crossingsOf", "(IZ)I"⟩ : Cond) ∈ gw := gw_t 1763 (by decide +kernel) rfl
set_option maxRecDepth 100000 in
theorem tw1764 : (.code ⟨"FamilyChartModel", "crossingsOf", "(IZ)I"⟩ prog_12_method_77_code 3 (Option.some ClassFile.FieldType.int) : Cond) ∈ gw := gw_t 1764 (by decide +kernel) rfl
set_option maxRecDepth 100000 in
theorem tw1765 : (.methodLink "FamilyChartLaw" 171 ⟨"FamilyChartModel", "crossingsIf", "(III)I"⟩ : Cond) ∈ gw := gw_t 1765 (by decide +kernel) rfl
set_option maxRecDepth 100000 in
theorem tw1766 : (.instanceMethod ⟨"FamilyChartModel", "crossingsIf", "(III)I"⟩ : Cond) ∈ gw := gw_t 1766 (by decide +kernel) rfl
set_option maxRecDepth 100000 in
theorem tw1767 : (.selects "FamilyChartModel" ⟨"FamilyChartModel", "crossingsIf", "(III)I"⟩ ⟨"FamilyChartModel", "crossingsIf", "(III)I"⟩ : Cond) ∈ gw := gw_t 1767 (by decide +kernel) rfl
set_option maxRecDepth 100000 in
theorem tw1768 : (.code ⟨"FamilyChartModel", "crossingsIf", "(III)I"⟩ prog_12_method_78_code 5 (Option.some ClassFile.FieldType.int) : Cond) ∈ gw := gw_t 1768 (by decide +kernel) rfl
set_option maxRecDepth 100000 in
theorem tw1769 : (.methodLink "FamilyChartModel" 300 ⟨"FamilyChartModel", "exchange", "(III)V"⟩ : Cond) ∈ gw := gw_t 1769 (by decide +kernel) rfl
set_option maxRecDepth 100000 in
theorem tw1771 : (.instanceMethod ⟨"FamilyChartModel", "exchange", "(III)V"⟩ : Cond) ∈ gw := gw_t 1771 (by decide +kernel) rfl
set_option maxRecDepth 100000 in
theorem tw1772 : (.code ⟨"FamilyChartModel", "exchange", "(III)V"⟩ prog_12_method_30_code 6 (Option.none : Option ClassFile.FieldType) : Cond) ∈ gw := gw_t 1772 (by decide +kernel) rfl
set_option maxRecDepth 100000 in
theorem tw1773 : (.methodLink "FamilyChartLaw" 175 ⟨"FamilyChartModel", "width", "()I"⟩ : Cond) ∈ gw := gw_t 1773 (by decide +kernel) rfl
set_option maxRecDepth 100000 in
theorem tw1774 : (.instanceMethod ⟨"FamilyChartModel", "width", "()I"⟩ : Cond) ∈ gw := gw_t 1774 (by decide +kernel) rfl
set_option maxRecDepth 100000 in
theorem tw1775 : (.selects "FamilyChartModel" ⟨"FamilyChartModel", "width", "()I"⟩ ⟨"FamilyChartModel", "width", "()I"⟩ : Cond) ∈ gw := gw_t 1775 (by decide +kernel) rfl
set_option maxRecDepth 100000 in
theorem tw1776 : (.code ⟨"FamilyChartModel", "width", "()I"⟩ prog_12_method_79_code 1 (Option.some ClassFile.FieldType.int) : Cond) ∈ gw := gw_t 1776 (by decide +kernel) rfl
set_option maxRecDepth 100000 in
theorem tw1777 : (.methodLink "FamilyChartModel" 304 ⟨"FamilyChartModel", "chartWidth", "()I"⟩ : Cond) ∈ gw := gw_t 1777 (by decide +kernel) rfl
set_option maxRecDepth 100000 in
theorem tw1779 : (.instanceMethod ⟨"FamilyChartModel", "chartWidth", "()I"⟩ : Cond) ∈ gw := gw_t 1779 (by decide +kernel) rfl
set_option maxRecDepth 100000 in
theorem tw1780 : (.code ⟨"FamilyChartModel", "chartWidth", "()I"⟩ prog_12_method_47_code 3 (Option.some ClassFile.FieldType.int) : Cond) ∈ gw := gw_t 1780 (by decide +kernel) rfl
set_option maxRecDepth 100000 in
theorem tw1781 : (.methodLink "FamilyChartModel" 218 ⟨"FamilyChartModel", "layLine", "(I)V"⟩ : Cond) ∈ gw := gw_t 1781 (by decide +kernel) rfl
set_option maxRecDepth 100000 in
theorem tw1783 : (.instanceMethod ⟨"FamilyChartModel", "layLine", "(I)V"⟩ : Cond) ∈ gw := gw_t 1783 (by decide +kernel) rfl
set_option maxRecDepth 100000 in
theorem tw1784 : (.code ⟨"FamilyChartModel", "layLine", "(I)V"⟩ prog_12_method_46_code 4 (Option.none : Option ClassFile.FieldType) : Cond) ∈ gw := gw_t 1784 (by decide +kernel) rfl
set_option maxRecDepth 100000 in
theorem tw1785 : (.methodLink "FamilyChartModel" 205 ⟨"FamilyChartModel", "printUnions", "(I)V"⟩ : Cond) ∈ gw := gw_t 1785 (by decide +kernel) rfl
set_option maxRecDepth 100000 in
theorem tw1787 : (.instanceMethod ⟨"FamilyChartModel", "printUnions", "(I)V"⟩ : Cond) ∈ gw := gw_t 1787 (by decide +kernel) rfl
set_option maxRecDepth 100000 in
theorem tw1788 : (.code ⟨"FamilyChartModel", "printUnions", "(I)V"⟩ prog_12_method_44_code 4 (Option.none : Option ClassFile.FieldType) : Cond) ∈ gw := gw_t 1788 (by decide +kernel) rfl
set_option maxRecDepth 100000 in
theorem tw1789 : (.methodLink "FamilyChartModel" 199 ⟨"FamilyChartModel", "mark", "(II)V"⟩ : Cond) ∈ gw := gw_t 1789 (by decide +kernel) rfl
set_option maxRecDepth 100000 in
theorem tw1791 : (.instanceMethod ⟨"FamilyChartModel", "mark", "(II)V"⟩ : Cond) ∈ gw := gw_t 1791 (by decide +kernel) rfl
set_option maxRecDepth 100000 in
theorem tw1792 : (.code ⟨"FamilyChartModel", "mark", "(II)V"⟩ prog_12_method_42_code 3 (Option.none : Option ClassFile.FieldType) : Cond) ∈ gw := gw_t 1792 (by decide +kernel) rfl
set_option maxRecDepth 100000 in
theorem tw1793 : (.methodLink "FamilyChartModel" 209 ⟨"FamilyChartModel", "printChildren", "(I)V"⟩ : Cond) ∈ gw := gw_t 1793 (by decide +kernel) rfl
set_option maxRecDepth 100000 in
theorem tw1795 : (.instanceMethod ⟨"FamilyChartModel", "printChildren", "(I)V"⟩ : Cond) ∈ gw := gw_t 1795 (by decide +kernel) rfl
set_option maxRecDepth 100000 in
theorem tw1796 : (.code ⟨"FamilyChartModel", "printChildren", "(I)V"⟩ prog_12_method_45_code 4 (Option.none : Option ClassFile.FieldType) : Cond) ∈ gw := gw_t 1796 (by decide +kernel) rfl
set_option maxRecDepth 100000 in
theorem tw1797 : (.methodLink "FamilyChartModel" 212 ⟨"FamilyChartModel", "printBox", "(I)V"⟩ : Cond) ∈ gw := gw_t 1797 (by decide +kernel) rfl
set_option maxRecDepth 100000 in
theorem tw1799 : (.instanceMethod ⟨"FamilyChartModel", "printBox", "(I)V"⟩ : Cond) ∈ gw := gw_t 1799 (by decide +kernel) rfl
set_option maxRecDepth 100000 in
theorem tw1800 : (.code ⟨"FamilyChartModel", "printBox", "(I)V"⟩ prog_12_method_43_code 8 (Option.none : Option ClassFile.FieldType) : Cond) ∈ gw := gw_t 1800 (by decide +kernel) rfl
set_option maxRecDepth 100000 in
theorem tw1801 : (.constantLong "FamilyChartModel" 203 (27 : Int64) : Cond) ∈ gw := gw_t 1801 (by decide +kernel) rfl
set_option maxRecDepth 100000 in
theorem tw1802 : (.methodLink "FamilyChartLaw" 178 ⟨"FamilyChartModel", "format", "(III)I"⟩ : Cond) ∈ gw := gw_t 1802 (by decide +kernel) rfl
set_option maxRecDepth 100000 in
theorem tw1803 : (.instanceMethod ⟨"FamilyChartModel", "format", "(III)I"⟩ : Cond) ∈ gw := gw_t 1803 (by decide +kernel) rfl
set_option maxRecDepth 100000 in
theorem tw1804 : (.selects "FamilyChartModel" ⟨"FamilyChartModel", "format", "(III)I"⟩ ⟨"FamilyChartModel", "format", "(III)I"⟩ : Cond) ∈ gw := gw_t 1804 (by decide +kernel) rfl
set_option maxRecDepth 100000 in
theorem tw1805 : (.code ⟨"FamilyChartModel", "format", "(III)I"⟩ prog_12_method_81_code 7 (Option.some ClassFile.FieldType.int) : Cond) ∈ gw := gw_t 1805 (by decide +kernel) rfl
set_option maxRecDepth 100000 in
theorem tw1806 : (.methodLink "FamilyChartModel" 311 ⟨"FamilyChartModel", "isWidth", "(I)Z"⟩ : Cond) ∈ gw := gw_t 1806 (by decide +kernel) rfl
set_option maxRecDepth 100000 in
theorem tw1807 : (.static ⟨"FamilyChartModel", "isWidth", "(I)Z"⟩ : Cond) ∈ gw := gw_t 1807 (by decide +kernel) rfl
set_option maxRecDepth 100000 in
theorem tw1808 : (.code ⟨"FamilyChartModel", "isWidth", "(I)Z"⟩ prog_12_method_80_code 1 (Option.some ClassFile.FieldType.boolean) : Cond) ∈ gw := gw_t 1808 (by decide +kernel) rfl
set_option maxRecDepth 100000 in
theorem tw1809 : (.constantLong "FamilyChartModel" 307 (10 : Int64) : Cond) ∈ gw := gw_t 1809 (by decide +kernel) rfl
set_option maxRecDepth 100000 in
theorem tw1810 : (.constantLong "FamilyChartModel" 309 (200 : Int64) : Cond) ∈ gw := gw_t 1810 (by decide +kernel) rfl
set_option maxRecDepth 100000 in
theorem tw1811 : (.methodLink "FamilyChartModel" 314 ⟨"java/lang/Math", "min", "(JJ)J"⟩ : Cond) ∈ gw := gw_t 1811 (by decide +kernel) rfl
set_option maxRecDepth 100000 in
theorem tw1812 : (.static ⟨"java/lang/Math", "min", "(JJ)J"⟩ : Cond) ∈ gw := gw_t 1812 (by decide +kernel) rfl
set_option maxRecDepth 100000 in
theorem tw1813 : (.code ⟨"java/lang/Math", "min", "(JJ)J"⟩ prog_19_method_70_code 4 (Option.some ClassFile.FieldType.long) : Cond) ∈ gw := gw_t 1813 (by decide +kernel) rfl
set_option maxRecDepth 100000 in
theorem tw1814 : (.methodLink "FamilyChartModel" 317 ⟨"java/lang/Math", "max", "(JJ)J"⟩ : Cond) ∈ gw := gw_t 1814 (by decide +kernel) rfl
set_option maxRecDepth 100000 in
theorem tw1815 : (.static ⟨"java/lang/Math", "max", "(JJ)J"⟩ : Cond) ∈ gw := gw_t 1815 (by decide +kernel) rfl
set_option maxRecDepth 100000 in
theorem tw1816 : (.code ⟨"java/lang/Math", "max", "(JJ)J"⟩ prog_19_method_66_code 4 (Option.some ClassFile.FieldType.long) : Cond) ∈ gw := gw_t 1816 (by decide +kernel) rfl
set_option maxRecDepth 100000 in
theorem tw1817 : (.methodLink "FamilyChartLaw" 182 ⟨"FamilyChartModel", "formattedByte", "(I)I"⟩ : Cond) ∈ gw := gw_t 1817 (by decide +kernel) rfl
set_option maxRecDepth 100000 in
theorem tw1818 : (.instanceMethod ⟨"FamilyChartModel", "formattedByte", "(I)I"⟩ : Cond) ∈ gw := gw_t 1818 (by decide +kernel) rfl
set_option maxRecDepth 100000 in
theorem tw1819 : (.selects "FamilyChartModel" ⟨"FamilyChartModel", "formattedByte", "(I)I"⟩ ⟨"FamilyChartModel", "formattedByte", "(I)I"⟩ : Cond) ∈ gw := gw_t 1819 (by decide +kernel) rfl
set_option maxRecDepth 100000 in
theorem tw1820 : (.code ⟨"FamilyChartModel", "formattedByte", "(I)I"⟩ prog_12_method_82_code 2 (Option.some ClassFile.FieldType.int) : Cond) ∈ gw := gw_t 1820 (by decide +kernel) rfl
set_option maxRecDepth 100000 in
theorem tw1821 : (.methodLink "FamilyChartLaw" 185 ⟨"FamilyChartModel", "strips", "(I)I"⟩ : Cond) ∈ gw := gw_t 1821 (by decide +kernel) rfl
set_option maxRecDepth 100000 in
theorem tw1822 : (.instanceMethod ⟨"FamilyChartModel", "strips", "(I)I"⟩ : Cond) ∈ gw := gw_t 1822 (by decide +kernel) rfl
set_option maxRecDepth 100000 in
theorem tw1823 : (.selects "FamilyChartModel" ⟨"FamilyChartModel", "strips", "(I)I"⟩ ⟨"FamilyChartModel", "strips", "(I)I"⟩ : Cond) ∈ gw := gw_t 1823 (by decide +kernel) rfl
set_option maxRecDepth 100000 in
theorem tw1824 : (.code ⟨"FamilyChartModel", "strips", "(I)I"⟩ prog_12_method_83_code 2 (Option.some ClassFile.FieldType.int) : Cond) ∈ gw := gw_t 1824 (by decide +kernel) rfl
set_option maxRecDepth 100000 in
theorem tw1825 : (.methodLink "FamilyChartLaw" 188 ⟨"FamilyChartModel", "cutBoxes", "(I)I"⟩ : Cond) ∈ gw := gw_t 1825 (by decide +kernel) rfl
set_option maxRecDepth 100000 in
theorem tw1826 : (.instanceMethod ⟨"FamilyChartModel", "cutBoxes", "(I)I"⟩ : Cond) ∈ gw := gw_t 1826 (by decide +kernel) rfl
set_option maxRecDepth 100000 in
theorem tw1827 : (.selects "FamilyChartModel" ⟨"FamilyChartModel", "cutBoxes", "(I)I"⟩ ⟨"FamilyChartModel", "cutBoxes", "(I)I"⟩ : Cond) ∈ gw := gw_t 1827 (by decide +kernel) rfl
set_option maxRecDepth 100000 in
theorem tw1828 : (.code ⟨"FamilyChartModel", "cutBoxes", "(I)I"⟩ prog_12_method_84_code 4 (Option.some ClassFile.FieldType.int) : Cond) ∈ gw := gw_t 1828 (by decide +kernel) rfl
set_option maxRecDepth 100000 in
theorem tw1829 : (.methodLink "FamilyChartLaw" 193 ⟨"FamilyChartModel", "repeated", "()F"⟩ : Cond) ∈ gw := gw_t 1829 (by decide +kernel) rfl
set_option maxRecDepth 100000 in
theorem tw1830 : (.instanceMethod ⟨"FamilyChartModel", "repeated", "()F"⟩ : Cond) ∈ gw := gw_t 1830 (by decide +kernel) rfl
set_option maxRecDepth 100000 in
theorem tw1831 : (.selects "FamilyChartModel" ⟨"FamilyChartModel", "repeated", "()F"⟩ ⟨"FamilyChartModel", "repeated", "()F"⟩ : Cond) ∈ gw := gw_t 1831 (by decide +kernel) rfl
set_option maxRecDepth 100000 in
theorem tw1832 : (.code ⟨"FamilyChartModel", "repeated", "()F"⟩ prog_12_method_85_code 2 (Option.some ClassFile.FieldType.float) : Cond) ∈ gw := gw_t 1832 (by decide +kernel) rfl
set_option maxRecDepth 100000 in
theorem tw1833 : (.methodLink "FamilyChartLaw" 198 ⟨"FamilyChartModel", "inbreeding", "()D"⟩ : Cond) ∈ gw := gw_t 1833 (by decide +kernel) rfl
set_option maxRecDepth 100000 in
theorem tw1834 : (.instanceMethod ⟨"FamilyChartModel", "inbreeding", "()D"⟩ : Cond) ∈ gw := gw_t 1834 (by decide +kernel) rfl
set_option maxRecDepth 100000 in
theorem tw1835 : (.selects "FamilyChartModel" ⟨"FamilyChartModel", "inbreeding", "()D"⟩ ⟨"FamilyChartModel", "inbreeding", "()D"⟩ : Cond) ∈ gw := gw_t 1835 (by decide +kernel) rfl
set_option maxRecDepth 100000 in
theorem tw1836 : (.code ⟨"FamilyChartModel", "inbreeding", "()D"⟩ prog_12_method_86_code 4 (Option.some ClassFile.FieldType.double) : Cond) ∈ gw := gw_t 1836 (by decide +kernel) rfl
set_option maxRecDepth 100000 in
theorem tw1837 : (.methodLink "FamilyChartLaw" 201 ⟨"FamilyChartModel", "marry", "(III)I"⟩ : Cond) ∈ gw := gw_t 1837 (by decide +kernel) rfl
set_option maxRecDepth 100000 in
theorem tw1838 : (.instanceMethod ⟨"FamilyChartModel", "marry", "(III)I"⟩ : Cond) ∈ gw := gw_t 1838 (by decide +kernel) rfl
set_option maxRecDepth 100000 in
theorem tw1839 : (.selects "FamilyChartModel" ⟨"FamilyChartModel", "marry", "(III)I"⟩ ⟨"FamilyChartModel", "marry", "(III)I"⟩ : Cond) ∈ gw := gw_t 1839 (by decide +kernel) rfl
set_option maxRecDepth 100000 in
theorem tw1840 : (.code ⟨"FamilyChartModel", "marry", "(III)I"⟩ prog_12_method_88_code 4 (Option.some ClassFile.FieldType.int) : Cond) ∈ gw := gw_t 1840 (by decide +kernel) rfl
set_option maxRecDepth 100000 in
theorem tw1841 : (.constantLong "FamilyChartModel" 322 (2100 : Int64) : Cond) ∈ gw := gw_t 1841 (by decide +kernel) rfl
set_option maxRecDepth 100000 in
theorem tw1842 : (.methodLink "FamilyChartModel" 324 ⟨"FamilyChartModel", "unionOf", "(II)I"⟩ : Cond) ∈ gw := gw_t 1842 (by decide +kernel) rfl
set_option maxRecDepth 100000 in
theorem tw1844 : (.instanceMethod ⟨"FamilyChartModel", "unionOf", "(II)I"⟩ : Cond) ∈ gw := gw_t 1844 (by decide +kernel) rfl
set_option maxRecDepth 100000 in
theorem tw1845 : (.code ⟨"FamilyChartModel", "unionOf", "(II)I"⟩ prog_12_method_14_code 4 (Option.some ClassFile.FieldType.int) : Cond) ∈ gw := gw_t 1845 (by decide +kernel) rfl
set_option maxRecDepth 100000 in
theorem tw1846 : (.methodLink "FamilyChartModel" 327 ⟨"FamilyChartModel", "record", "()V"⟩ : Cond) ∈ gw := gw_t 1846 (by decide +kernel) rfl
set_option maxRecDepth 100000 in
theorem tw1848 : (.instanceMethod ⟨"FamilyChartModel", "record", "()V"⟩ : Cond) ∈ gw := gw_t 1848 (by decide +kernel) rfl
set_option maxRecDepth 100000 in
theorem tw1849 : (.code ⟨"FamilyChartModel", "record", "()V"⟩ prog_12_method_100_code 2 (Option.none : Option ClassFile.FieldType) : Cond) ∈ gw := gw_t 1849 (by decide +kernel) rfl
set_option maxRecDepth 100000 in
theorem tw1850 : (.methodLink "FamilyChartModel" 357 ⟨"FamilyChartModel", "copy", "([JI[JI)V"⟩ : Cond) ∈ gw := gw_t 1850 (by decide +kernel) rfl
set_option maxRecDepth 100000 in
theorem tw1851 : (.static ⟨"FamilyChartModel", "copy", "([JI[JI)V"⟩ : Cond) ∈ gw := gw_t 1851 (by decide +kernel) rfl
set_option maxRecDepth 100000 in
theorem tw1852 : (.code ⟨"FamilyChartModel", "copy", "([JI[JI)V"⟩ prog_12_method_99_code 5 (Option.none : Option ClassFile.FieldType) : Cond) ∈ gw := gw_t 1852 (by decide +kernel) rfl
set_option maxRecDepth 100000 in
theorem tw1853 : (.methodLink "FamilyChartModel" 330 ⟨"FamilyChartModel", "addUnion", "(III)V"⟩ : Cond) ∈ gw := gw_t 1853 (by decide +kernel) rfl
set_option maxRecDepth 100000 in
theorem tw1855 : (.instanceMethod ⟨"FamilyChartModel", "addUnion", "(III)V"⟩ : Cond) ∈ gw := gw_t 1855 (by decide +kernel) rfl
set_option maxRecDepth 100000 in
theorem tw1856 : (.code ⟨"FamilyChartModel", "addUnion", "(III)V"⟩ prog_12_method_87_code 5 (Option.none : Option ClassFile.FieldType) : Cond) ∈ gw := gw_t 1856 (by decide +kernel) rfl
set_option maxRecDepth 100000 in
theorem tw1857 : (.methodLink "FamilyChartModel" 333 ⟨"FamilyChartModel", "makePlain", "()V"⟩ : Cond) ∈ gw := gw_t 1857 (by decide +kernel) rfl
set_option maxRecDepth 100000 in
theorem tw1859 : (.instanceMethod ⟨"FamilyChartModel", "makePlain", "()V"⟩ : Cond) ∈ gw := gw_t 1859 (by decide +kernel) rfl
set_option maxRecDepth 100000 in
theorem tw1860 : (.code ⟨"FamilyChartModel", "makePlain", "()V"⟩ prog_12_method_24_code 4 (Option.none : Option ClassFile.FieldType) : Cond) ∈ gw := gw_t 1860 (by decide +kernel) rfl
set_option maxRecDepth 100000 in
theorem tw1861 : (.methodLink "FamilyChartLaw" 204 ⟨"FamilyChartModel", "adopt", "(II)I"⟩ : Cond) ∈ gw := gw_t 1861 (by decide +kernel) rfl
set_option maxRecDepth 100000 in
theorem tw1862 : (.instanceMethod ⟨"FamilyChartModel", "adopt", "(II)I"⟩ : Cond) ∈ gw := gw_t 1862 (by decide +kernel) rfl
set_option maxRecDepth 100000 in
theorem tw1863 : (.selects "FamilyChartModel" ⟨"FamilyChartModel", "adopt", "(II)I"⟩ ⟨"FamilyChartModel", "adopt", "(II)I"⟩ : Cond) ∈ gw := gw_t 1863 (by decide +kernel) rfl
set_option maxRecDepth 100000 in
theorem tw1864 : (.code ⟨"FamilyChartModel", "adopt", "(II)I"⟩ prog_12_method_90_code 3 (Option.some ClassFile.FieldType.int) : Cond) ∈ gw := gw_t 1864 (by decide +kernel) rfl
set_option maxRecDepth 100000 in
theorem tw1865 : (.methodLink "FamilyChartModel" 336 ⟨"FamilyChartModel", "isAncestorOfBoth", "(II)Z"⟩ : Cond) ∈ gw := gw_t 1865 (by decide +kernel) rfl
set_option maxRecDepth 100000 in
theorem tw1867 : (.instanceMethod ⟨"FamilyChartModel", "isAncestorOfBoth", "(II)Z"⟩ : Cond) ∈ gw := gw_t 1867 (by decide +kernel) rfl
set_option maxRecDepth 100000 in
theorem tw1868 : (.code ⟨"FamilyChartModel", "isAncestorOfBoth", "(II)Z"⟩ prog_12_method_89_code 4 (Option.some ClassFile.FieldType.boolean) : Cond) ∈ gw := gw_t 1868 (by decide +kernel) rfl
set_option maxRecDepth 100000 in
theorem tw1869 : (.methodLink "FamilyChartModel" 339 ⟨"FamilyChartModel", "putPerson", "(IIJ)V"⟩ : Cond) ∈ gw := gw_t 1869 (by decide +kernel) rfl
set_option maxRecDepth 100000 in
theorem tw1871 : (.instanceMethod ⟨"FamilyChartModel", "putPerson", "(IIJ)V"⟩ : Cond) ∈ gw := gw_t 1871 (by decide +kernel) rfl
set_option maxRecDepth 100000 in
theorem tw1872 : (.code ⟨"FamilyChartModel", "putPerson", "(IIJ)V"⟩ prog_12_method_8_code 5 (Option.none : Option ClassFile.FieldType) : Cond) ∈ gw := gw_t 1872 (by decide +kernel) rfl
set_option maxRecDepth 100000 in
theorem tw1873 : (.methodLink "FamilyChartLaw" 207 ⟨"FamilyChartModel", "release", "(I)I"⟩ : Cond) ∈ gw := gw_t 1873 (by decide +kernel) rfl
set_option maxRecDepth 100000 in
theorem tw1874 : (.instanceMethod ⟨"FamilyChartModel", "release", "(I)I"⟩ : Cond) ∈ gw := gw_t 1874 (by decide +kernel) rfl
set_option maxRecDepth 100000 in
theorem tw1875 : (.selects "FamilyChartModel" ⟨"FamilyChartModel", "release", "(I)I"⟩ ⟨"FamilyChartModel", "release", "(I)I"⟩ : Cond) ∈ gw := gw_t 1875 (by decide +kernel) rfl
set_option maxRecDepth 100000 in
theorem tw1876 : (.code ⟨"FamilyChartModel", "release", "(I)I"⟩ prog_12_method_91_code 3 (Option.some ClassFile.FieldType.int) : Cond) ∈ gw := gw_t 1876 (by decide +kernel) rfl
set_option maxRecDepth 100000 in
theorem tw1877 : (.methodLink "FamilyChartLaw" 210 ⟨"FamilyChartModel", "swap", "(III)I"⟩ : Cond) ∈ gw := gw_t 1877 (by decide +kernel) rfl
set_option maxRecDepth 100000 in
theorem tw1878 : (.instanceMethod ⟨"FamilyChartModel", "swap", "(III)I"⟩ : Cond) ∈ gw := gw_t 1878 (by decide +kernel) rfl
set_option maxRecDepth 100000 in
theorem tw1879 : (.selects "FamilyChartModel" ⟨"FamilyChartModel", "swap", "(III)I"⟩ ⟨"FamilyChartModel", "swap", "(III)I"⟩ : Cond) ∈ gw := gw_t 1879 (by decide +kernel) rfl
set_option maxRecDepth 100000 in
theorem tw1880 : (.code ⟨"FamilyChartModel", "swap", "(III)I"⟩ prog_12_method_92_code 4 (Option.some ClassFile.FieldType.int) : Cond) ∈ gw := gw_t 1880 (by decide +kernel) rfl
set_option maxRecDepth 100000 in
theorem tw1881 : (.methodLink "FamilyChartLaw" 213 ⟨"FamilyChartModel", "improve", "(I)I"⟩ : Cond) ∈ gw := gw_t 1881 (by decide +kernel) rfl
set_option maxRecDepth 100000 in
theorem tw1882 : (.instanceMethod ⟨"FamilyChartModel", "improve", "(I)I"⟩ : Cond) ∈ gw := gw_t 1882 (by decide +kernel) rfl
set_option maxRecDepth 100000 in
theorem tw1883 : (.selects "FamilyChartModel" ⟨"FamilyChartModel", "improve", "(I)I"⟩ ⟨"FamilyChartModel", "improve", "(I)I"⟩ : Cond) ∈ gw := gw_t 1883 (by decide +kernel) rfl
set_option maxRecDepth 100000 in
theorem tw1884 : (.code ⟨"FamilyChartModel", "improve", "(I)I"⟩ prog_12_method_94_code 5 (Option.some ClassFile.FieldType.int) : Cond) ∈ gw := gw_t 1884 (by decide +kernel) rfl
set_option maxRecDepth 100000 in
theorem tw1885 : (.constantLong "FamilyChartModel" 343 (5 : Int64) : Cond) ∈ gw := gw_t 1885 (by decide +kernel) rfl
set_option maxRecDepth 100000 in
theorem tw1886 : (.methodLink "FamilyChartModel" 345 ⟨"FamilyChartModel", "improveOnce", "()I"⟩ : Cond) ∈ gw := gw_t 1886 (by decide +kernel) rfl
set_option maxRecDepth 100000 in
theorem tw1888 : (.instanceMethod ⟨"FamilyChartModel", "improveOnce", "()I"⟩ : Cond) ∈ gw := gw_t 1888 (by decide +kernel) rfl
set_option maxRecDepth 100000 in
theorem tw1889 : (.code ⟨"FamilyChartModel", "improveOnce", "()I"⟩ prog_12_method_93_code 5 (Option.some ClassFile.FieldType.int) : Cond) ∈ gw := gw_t 1889 (by decide +kernel) rfl
set_option maxRecDepth 100000 in
theorem tw1890 : (.methodLink "FamilyChartLaw" 217 ⟨"FamilyChartModel", "arrange", "()I"⟩ : Cond) ∈ gw := gw_t 1890 (by decide +kernel) rfl
set_option maxRecDepth 100000 in
theorem tw1891 : (.instanceMethod ⟨"FamilyChartModel", "arrange", "()I"⟩ : Cond) ∈ gw := gw_t 1891 (by decide +kernel) rfl
set_option maxRecDepth 100000 in
theorem tw1892 : (.selects "FamilyChartModel" ⟨"FamilyChartModel", "arrange", "()I"⟩ ⟨"FamilyChartModel", "arrange", "()I"⟩ : Cond) ∈ gw := gw_t 1892 (by decide +kernel) rfl
set_option maxRecDepth 100000 in
theorem tw1893 : (.code ⟨"FamilyChartModel", "arrange", "()I"⟩ prog_12_method_97_code 4 (Option.some ClassFile.FieldType.int) : Cond) ∈ gw := gw_t 1893 (by decide +kernel) rfl
set_option maxRecDepth 100000 in
theorem tw1894 : (.methodLink "FamilyChartModel" 351 ⟨"FamilyChartModel", "keyOf", "(I)I"⟩ : Cond) ∈ gw := gw_t 1894 (by decide +kernel) rfl
set_option maxRecDepth 100000 in
theorem tw1896 : (.instanceMethod ⟨"FamilyChartModel", "keyOf", "(I)I"⟩ : Cond) ∈ gw := gw_t 1896 (by decide +kernel) rfl
set_option maxRecDepth 100000 in
theorem tw1897 : (.code ⟨"FamilyChartModel", "keyOf", "(I)I"⟩ prog_12_method_96_code 4 (Option.some ClassFile.FieldType.int) : Cond) ∈ gw := gw_t 1897 (by decide +kernel) rfl
set_option maxRecDepth 100000 in
theorem tw1898 : (.methodLink "FamilyChartModel" 348 ⟨"FamilyChartModel", "mainKey", "(I)I"⟩ : Cond) ∈ gw := gw_t 1898 (by decide +kernel) rfl
set_option maxRecDepth 100000 in
theorem tw1900 : (.instanceMethod ⟨"FamilyChartModel", "mainKey", "(I)I"⟩ : Cond) ∈ gw := gw_t 1900 (by decide +kernel) rfl
set_option maxRecDepth 100000 in
theorem tw1901 : (.code ⟨"FamilyChartModel", "mainKey", "(I)I"⟩ prog_12_method_95_code 2 (Option.some ClassFile.FieldType.int) : Cond) ∈ gw := gw_t 1901 (by decide +kernel) rfl
set_option maxRecDepth 100000 in
theorem tw1902 : (.methodLink "FamilyChartLaw" 221 ⟨"FamilyChartModel", "plain", "()V"⟩ : Cond) ∈ gw := gw_t 1902 (by decide +kernel) rfl
set_option maxRecDepth 100000 in
theorem tw1903 : (.instanceMethod ⟨"FamilyChartModel", "plain", "()V"⟩ : Cond) ∈ gw := gw_t 1903 (by decide +kernel) rfl
set_option maxRecDepth 100000 in
theorem tw1904 : (.selects "FamilyChartModel" ⟨"FamilyChartModel", "plain", "()V"⟩ ⟨"FamilyChartModel", "plain", "()V"⟩ : Cond) ∈ gw := gw_t 1904 (by decide +kernel) rfl
set_option maxRecDepth 100000 in
theorem tw1905 : (.code ⟨"FamilyChartModel", "plain", "()V"⟩ prog_12_method_98_code 1 (Option.none : Option ClassFile.FieldType) : Cond) ∈ gw := gw_t 1905 (by decide +kernel) rfl
set_option maxRecDepth 100000 in
theorem tw1906 : (.methodLink "FamilyChartLaw" 225 ⟨"FamilyChartModel", "undoCount", "()I"⟩ : Cond) ∈ gw := gw_t 1906 (by decide +kernel) rfl
set_option maxRecDepth 100000 in
theorem tw1907 : (.instanceMethod ⟨"FamilyChartModel", "undoCount", "()I"⟩ : Cond) ∈ gw := gw_t 1907 (by decide +kernel) rfl
set_option maxRecDepth 100000 in
theorem tw1908 : (.selects "FamilyChartModel" ⟨"FamilyChartModel", "undoCount", "()I"⟩ ⟨"FamilyChartModel", "undoCount", "()I"⟩ : Cond) ∈ gw := gw_t 1908 (by decide +kernel) rfl
set_option maxRecDepth 100000 in
theorem tw1909 : (.code ⟨"FamilyChartModel", "undoCount", "()I"⟩ prog_12_method_101_code 1 (Option.some ClassFile.FieldType.int) : Cond) ∈ gw := gw_t 1909 (by decide +kernel) rfl
set_option maxRecDepth 100000 in
theorem tw1910 : (.methodLink "FamilyChartLaw" 229 ⟨"FamilyChartModel", "undo", "()I"⟩ : Cond) ∈ gw := gw_t 1910 (by decide +kernel) rfl
set_option maxRecDepth 100000 in
theorem tw1911 : (.instanceMethod ⟨"FamilyChartModel", "undo", "()I"⟩ : Cond) ∈ gw := gw_t 1911 (by decide +kernel) rfl
set_option maxRecDepth 100000 in
theorem tw1912 : (.selects "FamilyChartModel" ⟨"FamilyChartModel", "undo", "()I"⟩ ⟨"FamilyChartModel", "undo", "()I"⟩ : Cond) ∈ gw := gw_t 1912 (by decide +kernel) rfl
set_option maxRecDepth 100000 in
theorem tw1913 : (.code ⟨"FamilyChartModel", "undo", "()I"⟩ prog_12_method_102_code 1 (Option.some ClassFile.FieldType.int) : Cond) ∈ gw := gw_t 1913 (by decide +kernel) rfl
set_option maxRecDepth 100000 in
theorem tw1914 : (.methodLink "FamilyChartLaw" 233 ⟨"FamilyChartModel", "saveSnapshot", "()V"⟩ : Cond) ∈ gw := gw_t 1914 (by decide +kernel) rfl
set_option maxRecDepth 100000 in
theorem tw1915 : (.instanceMethod ⟨"FamilyChartModel", "saveSnapshot", "()V"⟩ : Cond) ∈ gw := gw_t 1915 (by decide +kernel) rfl
set_option maxRecDepth 100000 in
theorem tw1916 : (.selects "FamilyChartModel" ⟨"FamilyChartModel", "saveSnapshot", "()V"⟩ ⟨"FamilyChartModel", "saveSnapshot", "()V"⟩ : Cond) ∈ gw := gw_t 1916 (by decide +kernel) rfl
set_option maxRecDepth 100000 in
theorem tw1917 : (.code ⟨"FamilyChartModel", "saveSnapshot", "()V"⟩ prog_12_method_103_code 1 (Option.none : Option ClassFile.FieldType) : Cond) ∈ gw := gw_t 1917 (by decide +kernel) rfl
set_option maxRecDepth 100000 in
theorem tw1918 : (.methodLink "FamilyChartLaw" 238 ⟨"FamilyChartModel", "restoreSnapshot", "()Z"⟩ : Cond) ∈ gw := gw_t 1918 (by decide +kernel) rfl
set_option maxRecDepth 100000 in
theorem tw1919 : (.instanceMethod ⟨"FamilyChartModel", "restoreSnapshot", "()Z"⟩ : Cond) ∈ gw := gw_t 1919 (by decide +kernel) rfl
set_option maxRecDepth 100000 in
theorem tw1920 : (.selects "FamilyChartModel" ⟨"FamilyChartModel", "restoreSnapshot", "()Z"⟩ ⟨"FamilyChartModel", "restoreSnapshot", "()Z"⟩ : Cond) ∈ gw := gw_t 1920 (by decide +kernel) rfl
set_option maxRecDepth 100000 in
theorem tw1921 : (.code ⟨"FamilyChartModel", "restoreSnapshot", "()Z"⟩ prog_12_method_104_code 1 (Option.some ClassFile.FieldType.boolean) : Cond) ∈ gw := gw_t 1921 (by decide +kernel) rfl
set_option maxRecDepth 100000 in
theorem tw1922 : (.methodLink "FamilyChartLaw" 101 ⟨"FamilyChartModel", "feed", "(IIIII)I"⟩ : Cond) ∈ gw := gw_t 1922 (by decide +kernel) rfl
set_option maxRecDepth 100000 in
theorem tw1923 : (.instanceMethod ⟨"FamilyChartModel", "feed", "(IIIII)I"⟩ : Cond) ∈ gw := gw_t 1923 (by decide +kernel) rfl
set_option maxRecDepth 100000 in
theorem tw1924 : (.selects "FamilyChartModel" ⟨"FamilyChartModel", "feed", "(IIIII)I"⟩ ⟨"FamilyChartModel", "feed", "(IIIII)I"⟩ : Cond) ∈ gw := gw_t 1924 (by decide +kernel) rfl
set_option maxRecDepth 100000 in
theorem tw1925 : (.code ⟨"FamilyChartModel", "feed", "(IIIII)I"⟩ prog_12_method_105_code 8 (Option.some ClassFile.FieldType.int) : Cond) ∈ gw := gw_t 1925 (by decide +kernel) rfl
set_option maxRecDepth 100000 in
theorem tw1926 : (.methodLink "FamilyChartLaw" 115 ⟨"FamilyChartModel", "errorPosition", "()I"⟩ : Cond) ∈ gw := gw_t 1926 (by decide +kernel) rfl
set_option maxRecDepth 100000 in
theorem tw1927 : (.instanceMethod ⟨"FamilyChartModel", "errorPosition", "()I"⟩ : Cond) ∈ gw := gw_t 1927 (by decide +kernel) rfl
set_option maxRecDepth 100000 in
theorem tw1928 : (.selects "FamilyChartModel" ⟨"FamilyChartModel", "errorPosition", "()I"⟩ ⟨"FamilyChartModel", "errorPosition", "()I"⟩ : Cond) ∈ gw := gw_t 1928 (by decide +kernel) rfl
set_option maxRecDepth 100000 in
theorem tw1929 : (.code ⟨"FamilyChartModel", "errorPosition", "()I"⟩ prog_12_method_106_code 1 (Option.some ClassFile.FieldType.int) : Cond) ∈ gw := gw_t 1929 (by decide +kernel) rfl
set_option maxRecDepth 100000 in
theorem tw1930 : (.methodLink "FamilyChartLaw" 107 ⟨"FamilyChartModel", "load", "(I)I"⟩ : Cond) ∈ gw := gw_t 1930 (by decide +kernel) rfl
set_option maxRecDepth 100000 in
theorem tw1931 : (.instanceMethod ⟨"FamilyChartModel", "load", "(I)I"⟩ : Cond) ∈ gw := gw_t 1931 (by decide +kernel) rfl
set_option maxRecDepth 100000 in
theorem tw1932 : (.selects "FamilyChartModel" ⟨"FamilyChartModel", "load", "(I)I"⟩ ⟨"FamilyChartModel", "load", "(I)I"⟩ : Cond) ∈ gw := gw_t 1932 (by decide +kernel) rfl
set_option maxRecDepth 100000 in
theorem tw1933 : (.code ⟨"FamilyChartModel", "load", "(I)I"⟩ prog_12_method_130_code 3 (Option.some ClassFile.FieldType.int) : Cond) ∈ gw := gw_t 1933 (by decide +kernel) rfl
set_option maxRecDepth 100000 in
theorem tw1934 : (.methodLink "FamilyChartModel" 461 ⟨"FamilyChartModel", "startText", "(I)V"⟩ : Cond) ∈ gw := gw_t 1934 (by decide +kernel) rfl
set_option maxRecDepth 100000 in
theorem tw1936 : (.instanceMethod ⟨"FamilyChartModel", "startText", "(I)V"⟩ : Cond) ∈ gw := gw_t 1936 (by decide +kernel) rfl
set_option maxRecDepth 100000 in
theorem tw1937 : (.code ⟨"FamilyChartModel", "startText", "(I)V"⟩ prog_12_method_111_code 2 (Option.none : Option ClassFile.FieldType) : Cond) ∈ gw := gw_t 1937 (by decide +kernel) rfl
set_option maxRecDepth 100000 in
theorem tw1938 : (.methodLink "FamilyChartModel" 395 ⟨"FamilyChartModel", "scan", "()V"⟩ : Cond) ∈ gw := gw_t 1938 (by decide +kernel) rfl
set_option maxRecDepth 100000 in
theorem tw1940 : (.instanceMethod ⟨"FamilyChartModel", "scan", "()V"⟩ : Cond) ∈ gw := gw_t 1940 (by decide +kernel) rfl
set_option maxRecDepth 100000 in
theorem tw1941 : (.code ⟨"FamilyChartModel", "scan", "()V"⟩ prog_12_method_110_code 1 (Option.none : Option ClassFile.FieldType) : Cond) ∈ gw := gw_t 1941 (by decide +kernel) rfl
set_option maxRecDepth 100000 in
theorem tw1942 : (.methodLink "FamilyChartModel" 371 ⟨"FamilyChartModel", "byteAt", "(I)I"⟩ : Cond) ∈ gw := gw_t 1942 (by decide +kernel) rfl
set_option maxRecDepth 100000 in
theorem tw1944 : (.instanceMethod ⟨"FamilyChartModel", "byteAt", "(I)I"⟩ : Cond) ∈ gw := gw_t 1944 (by decide +kernel) rfl
set_option maxRecDepth 100000 in
theorem tw1945 : (.code ⟨"FamilyChartModel", "byteAt", "(I)I"⟩ prog_12_method_107_code 2 (Option.some ClassFile.FieldType.int) : Cond) ∈ gw := gw_t 1945 (by decide +kernel) rfl
set_option maxRecDepth 100000 in
theorem tw1946 : (.methodLink "FamilyChartModel" 383 ⟨"FamilyChartModel", "isLetter", "(I)Z"⟩ : Cond) ∈ gw := gw_t 1946 (by decide +kernel) rfl
set_option maxRecDepth 100000 in
theorem tw1948 : (.instanceMethod ⟨"FamilyChartModel", "isLetter", "(I)Z"⟩ : Cond) ∈ gw := gw_t 1948 (by decide +kernel) rfl
set_option maxRecDepth 100000 in
theorem tw1949 : (.code ⟨"FamilyChartModel", "isLetter", "(I)Z"⟩ prog_12_method_108_code 2 (Option.some ClassFile.FieldType.boolean) : Cond) ∈ gw := gw_t 1949 (by decide +kernel) rfl
set_option maxRecDepth 100000 in
theorem tw1950 : (.methodLink "FamilyChartModel" 386 ⟨"FamilyChartModel", "isDigit", "(I)Z"⟩ : Cond) ∈ gw := gw_t 1950 (by decide +kernel) rfl
set_option maxRecDepth 100000 in
theorem tw1952 : (.instanceMethod ⟨"FamilyChartModel", "isDigit", "(I)Z"⟩ : Cond) ∈ gw := gw_t 1952 (by decide +kernel) rfl
set_option maxRecDepth 100000 in
theorem tw1953 : (.code ⟨"FamilyChartModel", "isDigit", "(I)Z"⟩ prog_12_method_109_code 2 (Option.some ClassFile.FieldType.boolean) : Cond) ∈ gw := gw_t 1953 (by decide +kernel) rfl
set_option maxRecDepth 100000 in
theorem tw1954 : (.methodLink "FamilyChartModel" 464 ⟨"FamilyChartModel", "readClause", "()V"⟩ : Cond) ∈ gw := gw_t 1954 (by decide +kernel) rfl
set_option maxRecDepth 100000 in
theorem tw1956 : (.instanceMethod ⟨"FamilyChartModel", "readClause", "()V"⟩ : Cond) ∈ gw := gw_t 1956 (by decide +kernel) rfl
set_option maxRecDepth 100000 in
theorem tw1957 : (.code ⟨"FamilyChartModel", "readClause", "()V"⟩ prog_12_method_129_code 1 (Option.none : Option ClassFile.FieldType) : Cond) ∈ gw := gw_t 1957 (by decide +kernel) rfl
set_option maxRecDepth 100000 in
theorem tw1958 : (.methodLink "FamilyChartModel" 411 ⟨"FamilyChartModel", "isWord", "(Ljava/lang/String;)Z"⟩ : Cond) ∈ gw := gw_t 1958 (by decide +kernel) rfl
set_option maxRecDepth 100000 in
theorem tw1960 : (.instanceMethod ⟨"FamilyChartModel", "isWord", "(Ljava/lang/String;)Z"⟩ : Cond) ∈ gw := gw_t 1960 (by decide +kernel) rfl
set_option maxRecDepth 100000 in
theorem tw1961 : (.code ⟨"FamilyChartModel", "isWord", "(Ljava/lang/String;)Z"⟩ prog_12_method_117_code 4 (Option.some ClassFile.FieldType.boolean) : Cond) ∈ gw := gw_t 1961 (by decide +kernel) rfl
set_option maxRecDepth 100000 in
theorem tw1962 : (.methodLink "FamilyChartModel" 404 ⟨"java/lang/String", "length", "()I"⟩ : Cond) ∈ gw := gw_t 1962 (by decide +kernel) rfl
set_option maxRecDepth 100000 in
theorem tw1963 : (.methodLink "FamilyChartModel" 407 ⟨"java/lang/String", "charAt", "(I)C"⟩ : Cond) ∈ gw := gw_t 1963 (by decide +kernel) rfl
set_option maxRecDepth 100000 in
theorem tw1964 : (.methodLink "FamilyChartModel" 450 ⟨"FamilyChartModel", "readPerson", "()V"⟩ : Cond) ∈ gw := gw_t 1964 (by decide +kernel) rfl
set_option maxRecDepth 100000 in
theorem tw1966 : (.instanceMethod ⟨"FamilyChartModel", "readPerson", "()V"⟩ : Cond) ∈ gw := gw_t 1966 (by decide +kernel) rfl
set_option maxRecDepth 100000 in
theorem tw1967 : (.code ⟨"FamilyChartModel", "readPerson", "()V"⟩ prog_12_method_125_code 2 (Option.none : Option ClassFile.FieldType) : Cond) ∈ gw := gw_t 1967 (by decide +kernel) rfl
set_option maxRecDepth 100000 in
theorem tw1968 : (.methodLink "FamilyChartModel" 415 ⟨"FamilyChartModel", "check", "(ZI)V"⟩ : Cond) ∈ gw := gw_t 1968 (by decide +kernel) rfl
set_option maxRecDepth 100000 in
theorem tw1970 : (.instanceMethod ⟨"FamilyChartModel", "check", "(ZI)V"⟩ : Cond) ∈ gw := gw_t 1970 (by decide +kernel) rfl
set_option maxRecDepth 100000 in
theorem tw1971 : (.code ⟨"FamilyChartModel", "check", "(ZI)V"⟩ prog_12_method_114_code 3 (Option.none : Option ClassFile.FieldType) : Cond) ∈ gw := gw_t 1971 (by decide +kernel) rfl
set_option maxRecDepth 100000 in
theorem tw1972 : (.methodLink "FamilyChartModel" 401 ⟨"FamilyChartModel", "flaw", "(I)V"⟩ : Cond) ∈ gw := gw_t 1972 (by decide +kernel) rfl
set_option maxRecDepth 100000 in
theorem tw1974 : (.instanceMethod ⟨"FamilyChartModel", "flaw", "(I)V"⟩ : Cond) ∈ gw := gw_t 1974 (by decide +kernel) rfl
set_option maxRecDepth 100000 in
theorem tw1975 : (.code ⟨"FamilyChartModel", "flaw", "(I)V"⟩ prog_12_method_113_code 2 (Option.none : Option ClassFile.FieldType) : Cond) ∈ gw := gw_t 1975 (by decide +kernel) rfl
set_option maxRecDepth 100000 in
theorem tw1976 : (.methodLink "FamilyChartModel" 419 ⟨"FamilyChartModel", "advance", "()V"⟩ : Cond) ∈ gw := gw_t 1976 (by decide +kernel) rfl
set_option maxRecDepth 100000 in
theorem tw1978 : (.instanceMethod ⟨"FamilyChartModel", "advance", "()V"⟩ : Cond) ∈ gw := gw_t 1978 (by decide +kernel) rfl
set_option maxRecDepth 100000 in
theorem tw1979 : (.code ⟨"FamilyChartModel", "advance", "()V"⟩ prog_12_method_115_code 1 (Option.none : Option ClassFile.FieldType) : Cond) ∈ gw := gw_t 1979 (by decide +kernel) rfl
set_option maxRecDepth 100000 in
theorem tw1980 : (.methodLink "FamilyChartModel" 438 ⟨"FamilyChartModel", "personHere", "()I"⟩ : Cond) ∈ gw := gw_t 1980 (by decide +kernel) rfl
set_option maxRecDepth 100000 in
theorem tw1982 : (.instanceMethod ⟨"FamilyChartModel", "personHere", "()I"⟩ : Cond) ∈ gw := gw_t 1982 (by decide +kernel) rfl
set_option maxRecDepth 100000 in
theorem tw1983 : (.code ⟨"FamilyChartModel", "personHere", "()I"⟩ prog_12_method_124_code 2 (Option.some ClassFile.FieldType.int) : Cond) ∈ gw := gw_t 1983 (by decide +kernel) rfl
set_option maxRecDepth 100000 in
theorem tw1984 : (.methodLink "FamilyChartModel" 434 ⟨"FamilyChartModel", "nameHere", "()J"⟩ : Cond) ∈ gw := gw_t 1984 (by decide +kernel) rfl
set_option maxRecDepth 100000 in
theorem tw1986 : (.instanceMethod ⟨"FamilyChartModel", "nameHere", "()J"⟩ : Cond) ∈ gw := gw_t 1986 (by decide +kernel) rfl
set_option maxRecDepth 100000 in
theorem tw1987 : (.code ⟨"FamilyChartModel", "nameHere", "()J"⟩ prog_12_method_123_code 4 (Option.some ClassFile.FieldType.long) : Cond) ∈ gw := gw_t 1987 (by decide +kernel) rfl
set_option maxRecDepth 100000 in
theorem tw1988 : (.constantLong "FamilyChartModel" 432 (97 : Int64) : Cond) ∈ gw := gw_t 1988 (by decide +kernel) rfl
set_option maxRecDepth 100000 in
theorem tw1989 : (.methodLink "FamilyChartModel" 441 ⟨"FamilyChartModel", "readNumber", "(II)I"⟩ : Cond) ∈ gw := gw_t 1989 (by decide +kernel) rfl
set_option maxRecDepth 100000 in
theorem tw1991 : (.instanceMethod ⟨"FamilyChartModel", "readNumber", "(II)I"⟩ : Cond) ∈ gw := gw_t 1991 (by decide +kernel) rfl
set_option maxRecDepth 100000 in
theorem tw1992 : (.code ⟨"FamilyChartModel", "readNumber", "(II)I"⟩ prog_12_method_122_code 4 (Option.some ClassFile.FieldType.int) : Cond) ∈ gw := gw_t 1992 (by decide +kernel) rfl
set_option maxRecDepth 100000 in
theorem tw1993 : (.methodLink "FamilyChartModel" 429 ⟨"FamilyChartModel", "value", "()I"⟩ : Cond) ∈ gw := gw_t 1993 (by decide +kernel) rfl
set_option maxRecDepth 100000 in
theorem tw1995 : (.instanceMethod ⟨"FamilyChartModel", "value", "()I"⟩ : Cond) ∈ gw := gw_t 1995 (by decide +kernel) rfl
set_option maxRecDepth 100000 in
theorem tw1996 : (.code ⟨"FamilyChartModel", "value", "()I"⟩ prog_12_method_121_code 3 (Option.some ClassFile.FieldType.int) : Cond) ∈ gw := gw_t 1996 (by decide +kernel) rfl
set_option maxRecDepth 100000 in
theorem tw1997 : (.constantLong "FamilyChartModel" 425 (2000000000 : Int64) : Cond) ∈ gw := gw_t 1997 (by decide +kernel) rfl
set_option maxRecDepth 100000 in
theorem tw1998 : (.constantLong "FamilyChartModel" 427 (48 : Int64) : Cond) ∈ gw := gw_t 1998 (by decide +kernel) rfl
set_option maxRecDepth 100000 in
theorem tw2000 : (.methodLink "FamilyChartModel" 455 ⟨"FamilyChartModel", "readUnion", "()V"⟩ : Cond) ∈ gw := gw_t 2000 (by decide +kernel) rfl
set_option maxRecDepth 100000 in
theorem tw2002 : (.instanceMethod ⟨"FamilyChartModel", "readUnion", "()V"⟩ : Cond) ∈ gw := gw_t 2002 (by decide +kernel) rfl
set_option maxRecDepth 100000 in
theorem tw2003 : (.code ⟨"FamilyChartModel", "readUnion", "()V"⟩ prog_12_method_128_code 4 (Option.none : Option ClassFile.FieldType) : Cond) ∈ gw := gw_t 2003 (by decide +kernel) rfl
set_option maxRecDepth 100000 in
theorem tw2004 : (.methodLink "FamilyChartModel" 444 ⟨"FamilyChartModel", "readName", "()I"⟩ : Cond) ∈ gw := gw_t 2004 (by decide +kernel) rfl
set_option maxRecDepth 100000 in
theorem tw2006 : (.instanceMethod ⟨"FamilyChartModel", "readName", "()I"⟩ : Cond) ∈ gw := gw_t 2006 (by decide +kernel) rfl
set_option maxRecDepth 100000 in
theorem tw2007 : (.code ⟨"FamilyChartModel", "readName", "()I"⟩ prog_12_method_126_code 2 (Option.some ClassFile.FieldType.int) : Cond) ∈ gw := gw_t 2007 (by decide +kernel) rfl
set_option maxRecDepth 100000 in
theorem tw2008 : (.methodLink "FamilyChartModel" 447 ⟨"FamilyChartModel", "readChild", "(I)V"⟩ : Cond) ∈ gw := gw_t 2008 (by decide +kernel) rfl
set_option maxRecDepth 100000 in
theorem tw2010 : (.instanceMethod ⟨"FamilyChartModel", "readChild", "(I)V"⟩ : Cond) ∈ gw := gw_t 2010 (by decide +kernel) rfl
set_option maxRecDepth 100000 in
theorem tw2011 : (.code ⟨"FamilyChartModel", "readChild", "(I)V"⟩ prog_12_method_127_code 3 (Option.none : Option ClassFile.FieldType) : Cond) ∈ gw := gw_t 2011 (by decide +kernel) rfl
set_option maxRecDepth 100000 in
theorem tw2012 : (.methodLink "FamilyChartModel" 458 ⟨"FamilyChartModel", "expect", "(I)V"⟩ : Cond) ∈ gw := gw_t 2012 (by decide +kernel) rfl
set_option maxRecDepth 100000 in
theorem tw2014 : (.instanceMethod ⟨"FamilyChartModel", "expect", "(I)V"⟩ : Cond) ∈ gw := gw_t 2014 (by decide +kernel) rfl
set_option maxRecDepth 100000 in
theorem tw2015 : (.code ⟨"FamilyChartModel", "expect", "(I)V"⟩ prog_12_method_120_code 2 (Option.none : Option ClassFile.FieldType) : Cond) ∈ gw := gw_t 2015 (by decide +kernel) rfl
set_option maxRecDepth 100000 in
theorem tw2016 : (.methodLink "FamilyChartModel" 422 ⟨"FamilyChartModel", "isSymbol", "(I)Z"⟩ : Cond) ∈ gw := gw_t 2016 (by decide +kernel) rfl
set_option maxRecDepth 100000 in
theorem tw2018 : (.instanceMethod ⟨"FamilyChartModel", "isSymbol", "(I)Z"⟩ : Cond) ∈ gw := gw_t 2018 (by decide +kernel) rfl
set_option maxRecDepth 100000 in
theorem tw2019 : (.code ⟨"FamilyChartModel", "isSymbol", "(I)Z"⟩ prog_12_method_116_code 2 (Option.some ClassFile.FieldType.boolean) : Cond) ∈ gw := gw_t 2019 (by decide +kernel) rfl
set_option maxRecDepth 100000 in
theorem tw2020 : (.methodLink "FamilyChartModel" 467 ⟨"FamilyChartModel", "finish", "()I"⟩ : Cond) ∈ gw := gw_t 2020 (by decide +kernel) rfl
set_option maxRecDepth 100000 in
theorem tw2022 : (.instanceMethod ⟨"FamilyChartModel", "finish", "()I"⟩ : Cond) ∈ gw := gw_t 2022 (by decide +kernel) rfl
set_option maxRecDepth 100000 in
theorem tw2023 : (.code ⟨"FamilyChartModel", "finish", "()I"⟩ prog_12_method_112_code 1 (Option.some ClassFile.FieldType.int) : Cond) ∈ gw := gw_t 2023 (by decide +kernel) rfl
set_option maxRecDepth 100000 in
theorem tw2024 : (.methodLink "FamilyChartLaw" 241 ⟨"FamilyChartModel", "query", "(I)I"⟩ : Cond) ∈ gw := gw_t 2024 (by decide +kernel) rfl
set_option maxRecDepth 100000 in
theorem tw2025 : (.instanceMethod ⟨"FamilyChartModel", "query", "(I)I"⟩ : Cond) ∈ gw := gw_t 2025 (by decide +kernel) rfl
set_option maxRecDepth 100000 in
theorem tw2026 : (.selects "FamilyChartModel" ⟨"FamilyChartModel", "query", "(I)I"⟩ ⟨"FamilyChartModel", "query", "(I)I"⟩ : Cond) ∈ gw := gw_t 2026 (by decide +kernel) rfl
set_option maxRecDepth 100000 in
theorem tw2027 : (.code ⟨"FamilyChartModel", "query", "(I)I"⟩ prog_12_method_140_code 5 (Option.some ClassFile.FieldType.int) : Cond) ∈ gw := gw_t 2027 (by decide +kernel) rfl
set_option maxRecDepth 100000 in
theorem tw2030 : (.methodLink "FamilyChartModel" 485 ⟨"FamilyChartModel", "compileTest", "()V"⟩ : Cond) ∈ gw := gw_t 2030 (by decide +kernel) rfl
set_option maxRecDepth 100000 in
theorem tw2032 : (.instanceMethod ⟨"FamilyChartModel", "compileTest", "()V"⟩ : Cond) ∈ gw := gw_t 2032 (by decide +kernel) rfl
set_option maxRecDepth 100000 in
theorem tw2033 : (.code ⟨"FamilyChartModel", "compileTest", "()V"⟩ prog_12_method_136_code 1 (Option.none : Option ClassFile.FieldType) : Cond) ∈ gw := gw_t 2033 (by decide +kernel) rfl
set_option maxRecDepth 100000 in
theorem tw2034 : (.methodLink "FamilyChartModel" 496 ⟨"FamilyChartModel", "compileConjunction", "()V"⟩ : Cond) ∈ gw := gw_t 2034 (by decide +kernel) rfl
set_option maxRecDepth 100000 in
theorem tw2036 : (.instanceMethod ⟨"FamilyChartModel", "compileConjunction", "()V"⟩ : Cond) ∈ gw := gw_t 2036 (by decide +kernel) rfl
set_option maxRecDepth 100000 in
theorem tw2037 : (.code ⟨"FamilyChartModel", "compileConjunction", "()V"⟩ prog_12_method_135_code 1 (Option.none : Option ClassFile.FieldType) : Cond) ∈ gw := gw_t 2037 (by decide +kernel) rfl
set_option maxRecDepth 100000 in
theorem tw2038 : (.methodLink "FamilyChartModel" 482 ⟨"FamilyChartModel", "compileFactor", "()V"⟩ : Cond) ∈ gw := gw_t 2038 (by decide +kernel) rfl
set_option maxRecDepth 100000 in
theorem tw2040 : (.instanceMethod ⟨"FamilyChartModel", "compileFactor", "()V"⟩ : Cond) ∈ gw := gw_t 2040 (by decide +kernel) rfl
set_option maxRecDepth 100000 in
theorem tw2041 : (.code ⟨"FamilyChartModel", "compileFactor", "()V"⟩ prog_12_method_134_code 2 (Option.none : Option ClassFile.FieldType) : Cond) ∈ gw := gw_t 2041 (by decide +kernel) rfl
set_option maxRecDepth 100000 in
theorem tw2043 : (.methodLink "FamilyChartModel" 479 ⟨"FamilyChartModel", "enter", "()V"⟩ : Cond) ∈ gw := gw_t 2043 (by decide +kernel) rfl
set_option maxRecDepth 100000 in
theorem tw2045 : (.instanceMethod ⟨"FamilyChartModel", "enter", "()V"⟩ : Cond) ∈ gw := gw_t 2045 (by decide +kernel) rfl
set_option maxRecDepth 100000 in
theorem tw2046 : (.code ⟨"FamilyChartModel", "enter", "()V"⟩ prog_12_method_132_code 1 (Option.none : Option ClassFile.FieldType) : Cond) ∈ gw := gw_t 2046 (by decide +kernel) rfl
set_option maxRecDepth 100000 in
theorem tw2047 : (.methodLink "FamilyChartModel" 474 ⟨"FamilyChartModel", "emit", "(I)V"⟩ : Cond) ∈ gw := gw_t 2047 (by decide +kernel) rfl
set_option maxRecDepth 100000 in
theorem tw2049 : (.instanceMethod ⟨"FamilyChartModel", "emit", "(I)V"⟩ : Cond) ∈ gw := gw_t 2049 (by decide +kernel) rfl
set_option maxRecDepth 100000 in
theorem tw2050 : (.code ⟨"FamilyChartModel", "emit", "(I)V"⟩ prog_12_method_131_code 2 (Option.none : Option ClassFile.FieldType) : Cond) ∈ gw := gw_t 2050 (by decide +kernel) rfl
set_option maxRecDepth 100000 in
theorem tw2051 : (.methodLink "FamilyChartModel" 488 ⟨"FamilyChartModel", "compileValue", "()V"⟩ : Cond) ∈ gw := gw_t 2051 (by decide +kernel) rfl
set_option maxRecDepth 100000 in
theorem tw2053 : (.instanceMethod ⟨"FamilyChartModel", "compileValue", "()V"⟩ : Cond) ∈ gw := gw_t 2053 (by decide +kernel) rfl
set_option maxRecDepth 100000 in
theorem tw2054 : (.code ⟨"FamilyChartModel", "compileValue", "()V"⟩ prog_12_method_133_code 2 (Option.none : Option ClassFile.FieldType) : Cond) ∈ gw := gw_t 2054 (by decide +kernel) rfl
set_option maxRecDepth 100000 in
theorem tw2055 : (.constant "FamilyChartModel" 473 (99999 : Int32) : Cond) ∈ gw := gw_t 2055 (by decide +kernel) rfl
set_option maxRecDepth 100000 in
theorem tw2057 : (.methodLink "FamilyChartModel" 493 ⟨"FamilyChartModel", "accept", "(Ljava/lang/String;)Z"⟩ : Cond) ∈ gw := gw_t 2057 (by decide +kernel) rfl
set_option maxRecDepth 100000 in
theorem tw2059 : (.instanceMethod ⟨"FamilyChartModel", "accept", "(Ljava/lang/String;)Z"⟩ : Cond) ∈ gw := gw_t 2059 (by decide +kernel) rfl
set_option maxRecDepth 100000 in
theorem tw2060 : (.code ⟨"FamilyChartModel", "accept", "(Ljava/lang/String;)Z"⟩ prog_12_method_118_code 3 (Option.some ClassFile.FieldType.boolean) : Cond) ∈ gw := gw_t 2060 (by decide +kernel) rfl
set_option maxRecDepth 100000 in
theorem tw2062 : (.constant "FamilyChartModel" 512 (-1000000000 : Int32) : Cond) ∈ gw := gw_t 2062 (by decide +kernel) rfl
set_option maxRecDepth 100000 in
theorem tw2063 : (.methodLink "FamilyChartModel" 513 ⟨"FamilyChartModel", "holdsFor", "(I)Z"⟩ : Cond) ∈ gw := gw_t 2063 (by decide +kernel) rfl
set_option maxRecDepth 100000 in
theorem tw2065 : (.instanceMethod ⟨"FamilyChartModel", "holdsFor", "(I)Z"⟩ : Cond) ∈ gw := gw_t 2065 (by decide +kernel) rfl
set_option maxRecDepth 100000 in
theorem tw2066 : (.code ⟨"FamilyChartModel", "holdsFor", "(I)Z"⟩ prog_12_method_139_code 5 (Option.some ClassFile.FieldType.boolean) : Cond) ∈ gw := gw_t 2066 (by decide +kernel) rfl
set_option maxRecDepth 100000 in
theorem tw2067 : (.methodLink "FamilyChartModel" 501 ⟨"FamilyChartModel", "property", "(II)J"⟩ : Cond) ∈ gw := gw_t 2067 (by decide +kernel) rfl
set_option maxRecDepth 100000 in
theorem tw2069 : (.instanceMethod ⟨"FamilyChartModel", "property", "(II)J"⟩ : Cond) ∈ gw := gw_t 2069 (by decide +kernel) rfl
set_option maxRecDepth 100000 in
theorem tw2070 : (.code ⟨"FamilyChartModel", "property", "(II)J"⟩ prog_12_method_138_code 3 (Option.some ClassFile.FieldType.long) : Cond) ∈ gw := gw_t 2070 (by decide +kernel) rfl
set_option maxRecDepth 100000 in
theorem tw2071 : (.methodLink "FamilyChartModel" 504 ⟨"FamilyChartModel", "operate", "(IJJ)J"⟩ : Cond) ∈ gw := gw_t 2071 (by decide +kernel) rfl
set_option maxRecDepth 100000 in
theorem tw2072 : (.static ⟨"FamilyChartModel", "operate", "(IJJ)J"⟩ : Cond) ∈ gw := gw_t 2072 (by decide +kernel) rfl
set_option maxRecDepth 100000 in
theorem tw2073 : (.code ⟨"FamilyChartModel", "operate", "(IJJ)J"⟩ prog_12_method_137_code 5 (Option.some ClassFile.FieldType.long) : Cond) ∈ gw := gw_t 2073 (by decide +kernel) rfl
set_option maxRecDepth 100000 in
theorem tw2090 : (.fieldLink "java/lang/String" 9 "java/lang/String" "value" "[B" : Cond) ∈ gw := gw_t 2090 (by decide +kernel) rfl
set_option maxRecDepth 100000 in
theorem tw2091 : (.fieldLink "java/lang/String" 15 "java/lang/String" "coder" "B" : Cond) ∈ gw := gw_t 2091 (by decide +kernel) rfl
set_option maxRecDepth 100000 in
theorem inX0 : ∀ w ∈ u_ws RX0 TX0 4, w ∈ gw := by decide +kernel
set_option maxRecDepth 100000 in
theorem inX1 : ∀ w ∈ u_ws RX1 TX1 14, w ∈ gw := by decide +kernel
set_option maxRecDepth 100000 in
theorem inX2 : ∀ w ∈ u_ws RX2 TX2 6, w ∈ gw := by decide +kernel
set_option maxRecDepth 100000 in
theorem inX3 : ∀ w ∈ u_ws RX3 TX3 9, w ∈ gw := by decide +kernel
set_option maxRecDepth 100000 in
theorem inX4 : ∀ w ∈ u_ws RX4 TX4 7, w ∈ gw := by decide +kernel
set_option maxRecDepth 100000 in
theorem inX5 : ∀ w ∈ u_ws RX5 TX5 5, w ∈ gw := by decide +kernel
set_option maxRecDepth 100000 in
theorem inX6 : ∀ w ∈ u_ws RX6 TX6 4, w ∈ gw := by decide +kernel
set_option maxRecDepth 100000 in
theorem inX7 : ∀ w ∈ u_ws RX7 TX7 7, w ∈ gw := by decide +kernel
set_option maxRecDepth 100000 in
theorem inX8 : ∀ w ∈ u_ws RX8 TX8 2, w ∈ gw := by decide +kernel
set_option maxRecDepth 100000 in
theorem inX9 : ∀ w ∈ u_ws RX9 TX9 9, w ∈ gw := by decide +kernel
set_option maxRecDepth 100000 in
theorem inX10 : ∀ w ∈ u_ws RX10 TX10 37, w ∈ gw := by decide +kernel
theorem nw0 : (.methodLinkNest "FamilyChart" 11 ⟨"FamilyChart$Input", "<init>", "()V"⟩ "FamilyChart" : Cond) ∈ nw_all := by decide +kernel
theorem nw1 : (.methodLinkNest "FamilyChart" 18 ⟨"FamilyChart$Family", "<init>", "()V"⟩ "FamilyChart" : Cond) ∈ nw_all := by decide +kernel
theorem nw2 : (.methodLinkNest "FamilyChart$TextReader" 11 ⟨"FamilyChart$Family", "<init>", "()V"⟩ "FamilyChart" : Cond) ∈ nw_all := by decide +kernel
theorem nw3 : (.methodLinkNest "FamilyChart$Input" 22 ⟨"FamilyChart", "put", "([III)V"⟩ "FamilyChart" : Cond) ∈ nw_all := by decide +kernel
theorem nw4 : (.methodLinkNest "FamilyChart$Rows" 60 ⟨"FamilyChart", "at", "([II)I"⟩ "FamilyChart" : Cond) ∈ nw_all := by decide +kernel
theorem nw5 : (.methodLinkNest "FamilyChart$Family" 59 ⟨"FamilyChart", "at", "([II)I"⟩ "FamilyChart" : Cond) ∈ nw_all := by decide +kernel
theorem nw6 : (.methodLinkNest "FamilyChart$Family" 101 ⟨"FamilyChart", "bit", "(I)I"⟩ "FamilyChart" : Cond) ∈ nw_all := by decide +kernel
theorem nw7 : (.methodLinkNest "FamilyChart$Columns" 64 ⟨"FamilyChart", "at", "([II)I"⟩ "FamilyChart" : Cond) ∈ nw_all := by decide +kernel
theorem nw8 : (.methodLinkNest "FamilyChart$Rows" 93 ⟨"FamilyChart", "unionOfReference", "(I)I"⟩ "FamilyChart" : Cond) ∈ nw_all := by decide +kernel
theorem nw9 : (.methodLinkNest "FamilyChart$Columns" 50 ⟨"FamilyChart", "put", "([III)V"⟩ "FamilyChart" : Cond) ∈ nw_all := by decide +kernel
theorem nw10 : (.methodLinkNest "FamilyChart$Printer" 47 ⟨"FamilyChart", "put", "([III)V"⟩ "FamilyChart" : Cond) ∈ nw_all := by decide +kernel
theorem nw11 : (.methodLinkNest "FamilyChart$Printer" 80 ⟨"FamilyChart", "at", "([II)I"⟩ "FamilyChart" : Cond) ∈ nw_all := by decide +kernel
theorem nw12 : (.methodLinkNest "FamilyChart$Relations" 38 ⟨"FamilyChart", "at", "([II)I"⟩ "FamilyChart" : Cond) ∈ nw_all := by decide +kernel
theorem nw13 : (.methodLinkNest "FamilyChart$History" 52 ⟨"FamilyChart", "put", "([III)V"⟩ "FamilyChart" : Cond) ∈ nw_all := by decide +kernel
theorem nw14 : (.methodLinkNest "FamilyChart$History" 59 ⟨"FamilyChart", "copyCells", "([II[III)V"⟩ "FamilyChart" : Cond) ∈ nw_all := by decide +kernel
theorem nw15 : (.methodLinkNest "FamilyChart$Rows" 86 ⟨"FamilyChart", "copyCells", "([II[III)V"⟩ "FamilyChart" : Cond) ∈ nw_all := by decide +kernel
theorem nw16 : (.methodLinkNest "FamilyChart$Rows" 43 ⟨"FamilyChart", "put", "([III)V"⟩ "FamilyChart" : Cond) ∈ nw_all := by decide +kernel
theorem nw17 : (.methodLinkNest "FamilyChart$History" 78 ⟨"FamilyChart", "at", "([II)I"⟩ "FamilyChart" : Cond) ∈ nw_all := by decide +kernel
theorem nw18 : (.methodLinkNest "FamilyChart$Family" 67 ⟨"FamilyChart", "fill", "([II)V"⟩ "FamilyChart" : Cond) ∈ nw_all := by decide +kernel
theorem nw19 : (.methodLinkNest "FamilyChart$Family" 55 ⟨"FamilyChart", "put", "([III)V"⟩ "FamilyChart" : Cond) ∈ nw_all := by decide +kernel
theorem nw20 : (.methodLinkNest "FamilyChart$Input" 45 ⟨"FamilyChart", "at", "([II)I"⟩ "FamilyChart" : Cond) ∈ nw_all := by decide +kernel
theorem nw21 : (.methodLinkNest "FamilyChart$TextReader" 140 ⟨"FamilyChart", "at", "([II)I"⟩ "FamilyChart" : Cond) ∈ nw_all := by decide +kernel
theorem nw22 : (.methodLinkNest "FamilyChart$TextReader" 93 ⟨"FamilyChart", "put", "([III)V"⟩ "FamilyChart" : Cond) ∈ nw_all := by decide +kernel
theorem nw23 : (.methodLinkNest "FamilyChart$Family" 63 ⟨"FamilyChart", "copyCells", "([II[III)V"⟩ "FamilyChart" : Cond) ∈ nw_all := by decide +kernel
theorem nw24 : (.methodLinkNest "FamilyChart$Relations" 74 ⟨"FamilyChart", "bit", "(I)I"⟩ "FamilyChart" : Cond) ∈ nw_all := by decide +kernel
theorem nw25 : (.methodLinkNest "FamilyChart$Relations" 80 ⟨"FamilyChart", "fill", "([II)V"⟩ "FamilyChart" : Cond) ∈ nw_all := by decide +kernel
theorem nw26 : (.methodLinkNest "FamilyChart$Relations" 84 ⟨"FamilyChart", "put", "([III)V"⟩ "FamilyChart" : Cond) ∈ nw_all := by decide +kernel
theorem nw27 : (.methodLinkNest "FamilyChart$Relations" 101 ⟨"FamilyChart", "copyCells", "([II[III)V"⟩ "FamilyChart" : Cond) ∈ nw_all := by decide +kernel
theorem nw28 : (.methodLinkNest "FamilyChart$QueryReader" 142 ⟨"FamilyChart", "put", "([III)V"⟩ "FamilyChart" : Cond) ∈ nw_all := by decide +kernel
theorem nw29 : (.methodLinkNest "FamilyChart$QueryReader" 111 ⟨"FamilyChart", "at", "([II)I"⟩ "FamilyChart" : Cond) ∈ nw_all := by decide +kernel
theorem nw30 : (.methodLinkNest "FamilyChart$QueryReader" 119 ⟨"FamilyChart", "fill", "([II)V"⟩ "FamilyChart" : Cond) ∈ nw_all := by decide +kernel
theorem nw31 : (.methodLinkNest "FamilyChart$QueryReader" 76 ⟨"FamilyChart", "bit", "(I)I"⟩ "FamilyChart" : Cond) ∈ nw_all := by decide +kernel
set_option maxRecDepth 100000 in
theorem mJ6_bitCount_0f7a4 : mS yJ6_bitCount_0f7a4 cJ6_bitCount_0f7a4 1 (some .int) 1 := ⟨tw1039, tw1038, tw22, by decide +kernel, by decide +kernel, by decide +kernel⟩
set_option maxRecDepth 100000 in
theorem mX9_feed : mV yX9_feed cX9_feed 6 (some .int) 5 := ⟨tw375, tw373, tw374, tw1, by decide +kernel, by decide +kernel, by decide +kernel⟩
set_option maxRecDepth 100000 in
theorem mX9_load : mV yX9_load cX9_load 3 (some .int) 1 := ⟨tw743, tw741, tw742, tw1, by decide +kernel, by decide +kernel, by decide +kernel⟩
set_option maxRecDepth 100000 in
theorem mX9_errorPosition : mV yX9_errorPosition cX9_errorPosition 1 (some .int) 0 := ⟨tw390, tw388, tw389, tw1, by decide +kernel, by decide +kernel, by decide +kernel⟩
set_option maxRecDepth 100000 in
theorem mX9_count : mV yX9_count cX9_count 2 (some .int) 1 := ⟨tw394, tw392, tw393, tw1, by decide +kernel, by decide +kernel, by decide +kernel⟩
set_option maxRecDepth 100000 in
theorem mX9_person : mV yX9_person cX9_person 3 (some .int) 2 := ⟨tw990, tw988, tw989, tw1, by decide +kernel, by decide +kernel, by decide +kernel⟩
set_option maxRecDepth 100000 in
theorem mX9_union : mV yX9_union cX9_union 3 (some .int) 2 := ⟨tw1026, tw1024, tw1025, tw1, by decide +kernel, by decide +kernel, by decide +kernel⟩
set_option maxRecDepth 100000 in
theorem mX9_children : mV yX9_children cX9_children 2 (some .int) 1 := ⟨tw1052, tw1050, tw1051, tw1, by decide +kernel, by decide +kernel, by decide +kernel⟩
set_option maxRecDepth 100000 in
theorem mX9_ancestors : mV yX9_ancestors cX9_ancestors 2 (some .int) 1 := ⟨tw1059, tw1057, tw1058, tw1, by decide +kernel, by decide +kernel, by decide +kernel⟩
set_option maxRecDepth 100000 in
theorem mX9_descendants : mV yX9_descendants cX9_descendants 2 (some .int) 1 := ⟨tw1066, tw1064, tw1065, tw1, by decide +kernel, by decide +kernel, by decide +kernel⟩
set_option maxRecDepth 100000 in
theorem mX9_kinship : mV yX9_kinship cX9_kinship 3 (some .long) 2 := ⟨tw1077, tw1075, tw1076, tw1, by decide +kernel, by decide +kernel, by decide +kernel⟩
set_option maxRecDepth 100000 in
theorem mX9_distance : mV yX9_distance cX9_distance 3 (some .int) 2 := ⟨tw1085, tw1083, tw1084, tw1, by decide +kernel, by decide +kernel, by decide +kernel⟩
set_option maxRecDepth 100000 in
theorem mX9_linesTo : mV yX9_linesTo cX9_linesTo 3 (some .int) 2 := ⟨tw1101, tw1099, tw1100, tw1, by decide +kernel, by decide +kernel, by decide +kernel⟩
set_option maxRecDepth 100000 in
theorem mX9_nearestAncestor : mV yX9_nearestAncestor cX9_nearestAncestor 3 (some .int) 2 := ⟨tw1114, tw1112, tw1113, tw1, by decide +kernel, by decide +kernel, by decide +kernel⟩
set_option maxRecDepth 100000 in
theorem mX9_collapse : mV yX9_collapse cX9_collapse 3 (some .int) 2 := ⟨tw1126, tw1124, tw1125, tw1, by decide +kernel, by decide +kernel, by decide +kernel⟩
set_option maxRecDepth 100000 in
theorem mX9_boxes : mV yX9_boxes cX9_boxes 2 (some .int) 1 := ⟨tw1148, tw1146, tw1147, tw1, by decide +kernel, by decide +kernel, by decide +kernel⟩
set_option maxRecDepth 100000 in
theorem mX9_box : mV yX9_box cX9_box 5 (some .int) 3 := ⟨tw1161, tw1159, tw1160, tw1, by decide +kernel, by decide +kernel, by decide +kernel⟩
set_option maxRecDepth 100000 in
theorem mX9_place : mV yX9_place cX9_place 2 (some .int) 1 := ⟨tw1178, tw1176, tw1177, tw1, by decide +kernel, by decide +kernel, by decide +kernel⟩
set_option maxRecDepth 100000 in
theorem mX9_crossings : mV yX9_crossings cX9_crossings 1 (some .int) 0 := ⟨tw433, tw431, tw432, tw1, by decide +kernel, by decide +kernel, by decide +kernel⟩
set_option maxRecDepth 100000 in
theorem mX9_crossingsOf : mV yX9_crossingsOf cX9_crossingsOf 3 (some .int) 2 := ⟨tw1185, tw1183, tw1184, tw1, by decide +kernel, by decide +kernel, by decide +kernel⟩
set_option maxRecDepth 100000 in
theorem mX9_crossingsIf : mV yX9_crossingsIf cX9_crossingsIf 5 (some .int) 3 := ⟨tw1194, tw1192, tw1193, tw1, by decide +kernel, by decide +kernel, by decide +kernel⟩
set_option maxRecDepth 100000 in
theorem mX9_width : mV yX9_width cX9_width 1 (some .int) 0 := ⟨tw482, tw480, tw481, tw1, by decide +kernel, by decide +kernel, by decide +kernel⟩
set_option maxRecDepth 100000 in
theorem mX9_format : mV yX9_format cX9_format 4 (some .int) 3 := ⟨tw1202, tw1200, tw1201, tw1, by decide +kernel, by decide +kernel, by decide +kernel⟩
set_option maxRecDepth 100000 in
theorem mX9_formattedByte : mV yX9_formattedByte cX9_formattedByte 2 (some .int) 1 := ⟨tw563, tw561, tw562, tw1, by decide +kernel, by decide +kernel, by decide +kernel⟩
set_option maxRecDepth 100000 in
theorem mX9_strips : mV yX9_strips cX9_strips 2 (some .int) 1 := ⟨tw1219, tw1217, tw1218, tw1, by decide +kernel, by decide +kernel, by decide +kernel⟩
set_option maxRecDepth 100000 in
theorem mX9_cutBoxes : mV yX9_cutBoxes cX9_cutBoxes 2 (some .int) 1 := ⟨tw1226, tw1224, tw1225, tw1, by decide +kernel, by decide +kernel, by decide +kernel⟩
set_option maxRecDepth 100000 in
theorem mX9_repeated : mV yX9_repeated cX9_repeated 2 (some .float) 0 := ⟨tw568, tw566, tw567, tw1, by decide +kernel, by decide +kernel, by decide +kernel⟩
set_option maxRecDepth 100000 in
theorem mX9_inbreeding : mV yX9_inbreeding cX9_inbreeding 1 (some .double) 0 := ⟨tw572, tw570, tw571, tw1, by decide +kernel, by decide +kernel, by decide +kernel⟩
set_option maxRecDepth 100000 in
theorem mX9_marry : mV yX9_marry cX9_marry 5 (some .int) 3 := ⟨tw1241, tw1239, tw1240, tw1, by decide +kernel, by decide +kernel, by decide +kernel⟩
set_option maxRecDepth 100000 in
theorem mX9_adopt : mV yX9_adopt cX9_adopt 3 (some .int) 2 := ⟨tw1256, tw1254, tw1255, tw1, by decide +kernel, by decide +kernel, by decide +kernel⟩
set_option maxRecDepth 100000 in
theorem mX9_release : mV yX9_release cX9_release 3 (some .int) 1 := ⟨tw1265, tw1263, tw1264, tw1, by decide +kernel, by decide +kernel, by decide +kernel⟩
set_option maxRecDepth 100000 in
theorem mX9_swap : mV yX9_swap cX9_swap 4 (some .int) 3 := ⟨tw1272, tw1270, tw1271, tw1, by decide +kernel, by decide +kernel, by decide +kernel⟩
set_option maxRecDepth 100000 in
theorem mX9_improve : mV yX9_improve cX9_improve 5 (some .int) 1 := ⟨tw1279, tw1277, tw1278, tw1, by decide +kernel, by decide +kernel, by decide +kernel⟩
set_option maxRecDepth 100000 in
theorem mX9_arrange : mV yX9_arrange cX9_arrange 1 (some .int) 0 := ⟨tw608, tw606, tw607, tw1, by decide +kernel, by decide +kernel, by decide +kernel⟩
set_option maxRecDepth 100000 in
theorem mX9_plain : mV yX9_plain cX9_plain 1 none 0 := ⟨tw658, tw656, tw657, tw1, by decide +kernel, by decide +kernel, by decide +kernel⟩
set_option maxRecDepth 100000 in
theorem mX9_undoCount : mV yX9_undoCount cX9_undoCount 1 (some .int) 0 := ⟨tw678, tw676, tw677, tw1, by decide +kernel, by decide +kernel, by decide +kernel⟩
set_option maxRecDepth 100000 in
theorem mX9_undo : mV yX9_undo cX9_undo 1 (some .int) 0 := ⟨tw682, tw680, tw681, tw1, by decide +kernel, by decide +kernel, by decide +kernel⟩
set_option maxRecDepth 100000 in
theorem mX9_saveSnapshot : mV yX9_saveSnapshot cX9_saveSnapshot 1 none 0 := ⟨tw723, tw721, tw722, tw1, by decide +kernel, by decide +kernel, by decide +kernel⟩
set_option maxRecDepth 100000 in
theorem mX9_restoreSnapshot : mV yX9_restoreSnapshot cX9_restoreSnapshot 1 (some .boolean) 0 := ⟨tw731, tw729, tw730, tw1, by decide +kernel, by decide +kernel, by decide +kernel⟩
set_option maxRecDepth 100000 in
theorem mX9_query : mV yX9_query cX9_query 2 (some .int) 1 := ⟨tw1295, tw1293, tw1294, tw1, by decide +kernel, by decide +kernel, by decide +kernel⟩
set_option maxRecDepth 100000 in
theorem mX9_renewRows : mV yX9_renewRows cX9_renewRows 1 none 0 := ⟨tw1248, tw1247, (gw_s 41 rfl), tw1, by decide +kernel, by decide +kernel, by decide +kernel⟩
set_option maxRecDepth 100000 in
theorem mX9_requirePerson : mV yX9_requirePerson cX9_requirePerson 2 none 1 := ⟨tw994, tw993, (gw_s 33 rfl), tw1, by decide +kernel, by decide +kernel, by decide +kernel⟩
set_option maxRecDepth 100000 in
theorem mX9_requireUnion : mV yX9_requireUnion cX9_requireUnion 2 none 1 := ⟨tw1030, tw1029, (gw_s 34 rfl), tw1, by decide +kernel, by decide +kernel, by decide +kernel⟩
set_option maxRecDepth 100000 in
theorem mX9_requireRow : mV yX9_requireRow cX9_requireRow 2 none 1 := ⟨tw1152, tw1151, (gw_s 38 rfl), tw1, by decide +kernel, by decide +kernel, by decide +kernel⟩
set_option maxRecDepth 100000 in
theorem mX9_requirePlace : mV yX9_requirePlace cX9_requirePlace 3 none 2 := ⟨tw1165, tw1164, (gw_s 39 rfl), tw1, by decide +kernel, by decide +kernel, by decide +kernel⟩
set_option maxRecDepth 100000 in
theorem mX9_requireStripWidth : mS yX9_requireStripWidth cX9_requireStripWidth 1 none 1 := ⟨tw1206, tw1205, tw1, by decide +kernel, by decide +kernel, by decide +kernel⟩
set_option maxRecDepth 100000 in
theorem mX9_at : mS yX9_at cX9_at 2 (some .int) 2 := ⟨tw401, tw400, tw1, by decide +kernel, by decide +kernel, by decide +kernel⟩
set_option maxRecDepth 100000 in
theorem mX9_put : mS yX9_put cX9_put 3 none 3 := ⟨tw386, tw385, tw1, by decide +kernel, by decide +kernel, by decide +kernel⟩
set_option maxRecDepth 100000 in
theorem mX9_fill : mS yX9_fill cX9_fill 3 none 2 := ⟨tw698, tw697, tw1, by decide +kernel, by decide +kernel, by decide +kernel⟩
set_option maxRecDepth 100000 in
theorem mX9_copyCells : mS yX9_copyCells cX9_copyCells 6 none 5 := ⟨tw620, tw619, tw1, by decide +kernel, by decide +kernel, by decide +kernel⟩
set_option maxRecDepth 100000 in
theorem mX9_bit : mS yX9_bit cX9_bit 1 (some .int) 1 := ⟨tw429, tw428, tw1, by decide +kernel, by decide +kernel, by decide +kernel⟩
set_option maxRecDepth 100000 in
theorem mX9_unionOfReference : mS yX9_unionOfReference cX9_unionOfReference 1 (some .int) 1 := ⟨tw509, tw508, tw1, by decide +kernel, by decide +kernel, by decide +kernel⟩
set_option maxRecDepth 100000 in
theorem mX10_thrown : mV yX10_thrown cX10_thrown 1 (some .int) 0 := ⟨tw1498, tw1496, tw1497, tw11, by decide +kernel, by decide +kernel, by decide +kernel⟩
set_option maxRecDepth 100000 in
theorem mX10_raise : mV yX10_raise cX10_raise 2 (some .int) 1 := ⟨tw1587, tw1586, (gw_s 69 rfl), tw11, by decide +kernel, by decide +kernel, by decide +kernel⟩
set_option maxRecDepth 100000 in
theorem mX10_inRange : mS yX10_inRange cX10_inRange 6 (some .boolean) 3 := ⟨tw1582, tw1581, tw11, by decide +kernel, by decide +kernel, by decide +kernel⟩
set_option maxRecDepth 100000 in
theorem mX10_persons : mV yX10_persons cX10_persons 1 (some .int) 0 := ⟨tw1514, tw1513, (gw_s 53 rfl), tw11, by decide +kernel, by decide +kernel, by decide +kernel⟩
set_option maxRecDepth 100000 in
theorem mX10_unions : mV yX10_unions cX10_unions 1 (some .int) 0 := ⟨tw1535, tw1534, (gw_s 58 rfl), tw11, by decide +kernel, by decide +kernel, by decide +kernel⟩
set_option maxRecDepth 100000 in
theorem mX10_ofPerson : mV yX10_ofPerson cX10_ofPerson 3 (some .long) 2 := ⟨tw1522, tw1521, (gw_s 55 rfl), tw11, by decide +kernel, by decide +kernel, by decide +kernel⟩
set_option maxRecDepth 100000 in
theorem mX10_putPerson : mV yX10_putPerson cX10_putPerson 5 none 3 := ⟨tw1872, tw1871, (gw_s 109 rfl), tw11, by decide +kernel, by decide +kernel, by decide +kernel⟩
set_option maxRecDepth 100000 in
theorem mX10_parentsOf : mV yX10_parentsOf cX10_parentsOf 2 (some .int) 1 := ⟨tw1518, tw1517, (gw_s 54 rfl), tw11, by decide +kernel, by decide +kernel, by decide +kernel⟩
set_option maxRecDepth 100000 in
theorem mX10_partner : mV yX10_partner cX10_partner 3 (some .int) 2 := ⟨tw1530, tw1529, (gw_s 57 rfl), tw11, by decide +kernel, by decide +kernel, by decide +kernel⟩
set_option maxRecDepth 100000 in
theorem mX10_isPartner : mV yX10_isPartner cX10_isPartner 3 (some .boolean) 2 := ⟨tw1567, tw1566, (gw_s 66 rfl), tw11, by decide +kernel, by decide +kernel, by decide +kernel⟩
set_option maxRecDepth 100000 in
theorem mX10_isPerson : mV yX10_isPerson cX10_isPerson 2 (some .boolean) 1 := ⟨tw1579, tw1578, (gw_s 68 rfl), tw11, by decide +kernel, by decide +kernel, by decide +kernel⟩
set_option maxRecDepth 100000 in
theorem mX10_isUnion : mV yX10_isUnion cX10_isUnion 2 (some .boolean) 1 := ⟨tw1599, tw1598, (gw_s 71 rfl), tw11, by decide +kernel, by decide +kernel, by decide +kernel⟩
set_option maxRecDepth 100000 in
theorem mX10_unionOf : mV yX10_unionOf cX10_unionOf 4 (some .int) 2 := ⟨tw1845, tw1844, (gw_s 104 rfl), tw11, by decide +kernel, by decide +kernel, by decide +kernel⟩
set_option maxRecDepth 100000 in
theorem mX10_ancestorMask : mV yX10_ancestorMask cX10_ancestorMask 8 (some .int) 1 := ⟨tw1651, tw1650, (gw_s 81 rfl), tw11, by decide +kernel, by decide +kernel, by decide +kernel⟩
set_option maxRecDepth 100000 in
theorem mX10_childMask : mV yX10_childMask cX10_childMask 4 (some .int) 1 := ⟨tw1571, tw1570, (gw_s 67 rfl), tw11, by decide +kernel, by decide +kernel, by decide +kernel⟩
set_option maxRecDepth 100000 in
theorem mX10_members : mS yX10_members cX10_members 3 (some .int) 1 := ⟨tw1635, tw1634, tw11, by decide +kernel, by decide +kernel, by decide +kernel⟩
set_option maxRecDepth 100000 in
theorem mX10_levelOf : mV yX10_levelOf cX10_levelOf 2 (some .int) 1 := ⟨tw1526, tw1525, (gw_s 56 rfl), tw11, by decide +kernel, by decide +kernel, by decide +kernel⟩
set_option maxRecDepth 100000 in
theorem mX10_layGenerations : mV yX10_layGenerations cX10_layGenerations 4 none 0 := ⟨tw1510, tw1509, (gw_s 52 rfl), tw11, by decide +kernel, by decide +kernel, by decide +kernel⟩
set_option maxRecDepth 100000 in
theorem mX10_referred : mV yX10_referred cX10_referred 4 (some .int) 1 := ⟨tw1543, tw1542, (gw_s 60 rfl), tw11, by decide +kernel, by decide +kernel, by decide +kernel⟩
set_option maxRecDepth 100000 in
theorem mX10_layBoxes : mV yX10_layBoxes cX10_layBoxes 3 none 0 := ⟨tw1539, tw1538, (gw_s 59 rfl), tw11, by decide +kernel, by decide +kernel, by decide +kernel⟩
set_option maxRecDepth 100000 in
theorem mX10_lay : mV yX10_lay cX10_lay 1 none 0 := ⟨tw1506, tw1505, (gw_s 51 rfl), tw11, by decide +kernel, by decide +kernel, by decide +kernel⟩
set_option maxRecDepth 100000 in
theorem mX10_layPlaces : mV yX10_layPlaces cX10_layPlaces 2 none 0 := ⟨tw1547, tw1546, (gw_s 61 rfl), tw11, by decide +kernel, by decide +kernel, by decide +kernel⟩
set_option maxRecDepth 100000 in
theorem mX10_makePlain : mV yX10_makePlain cX10_makePlain 4 none 0 := ⟨tw1860, tw1859, (gw_s 107 rfl), tw11, by decide +kernel, by decide +kernel, by decide +kernel⟩
set_option maxRecDepth 100000 in
theorem mX10_placeOf : mV yX10_placeOf cX10_placeOf 2 (some .int) 1 := ⟨tw1551, tw1550, (gw_s 62 rfl), tw11, by decide +kernel, by decide +kernel, by decide +kernel⟩
set_option maxRecDepth 100000 in
theorem mX10_boxIn : mV yX10_boxIn cX10_boxIn 3 (some .int) 2 := ⟨tw1608, tw1607, (gw_s 73 rfl), tw11, by decide +kernel, by decide +kernel, by decide +kernel⟩
set_option maxRecDepth 100000 in
theorem mX10_personOf : mV yX10_personOf cX10_personOf 2 (some .int) 1 := ⟨tw1632, tw1631, (gw_s 79 rfl), tw11, by decide +kernel, by decide +kernel, by decide +kernel⟩
set_option maxRecDepth 100000 in
theorem mX10_partnerBox : mV yX10_partnerBox cX10_partnerBox 4 (some .int) 2 := ⟨tw1620, tw1619, (gw_s 76 rfl), tw11, by decide +kernel, by decide +kernel, by decide +kernel⟩
set_option maxRecDepth 100000 in
theorem mX10_middle : mV yX10_middle cX10_middle 2 (some .int) 1 := ⟨tw1639, tw1638, (gw_s 80 rfl), tw11, by decide +kernel, by decide +kernel, by decide +kernel⟩
set_option maxRecDepth 100000 in
theorem mX10_exchange : mV yX10_exchange cX10_exchange 6 none 3 := ⟨tw1772, tw1771, (gw_s 97 rfl), tw11, by decide +kernel, by decide +kernel, by decide +kernel⟩
set_option maxRecDepth 100000 in
theorem mX10_isBetween : mS yX10_isBetween cX10_isBetween 3 (some .boolean) 3 := ⟨tw1751, tw1750, tw11, by decide +kernel, by decide +kernel, by decide +kernel⟩
set_option maxRecDepth 100000 in
theorem mX10_doCross : mV yX10_doCross cX10_doCross 8 (some .boolean) 2 := ⟨tw1748, tw1747, (gw_s 94 rfl), tw11, by decide +kernel, by decide +kernel, by decide +kernel⟩
set_option maxRecDepth 100000 in
theorem mX10_crossingsIn : mV yX10_crossingsIn cX10_crossingsIn 5 (some .int) 1 := ⟨tw1744, tw1743, (gw_s 93 rfl), tw11, by decide +kernel, by decide +kernel, by decide +kernel⟩
set_option maxRecDepth 100000 in
theorem mX10_isChildAt : mV yX10_isChildAt cX10_isChildAt 3 (some .boolean) 2 := ⟨tw1760, tw1759, (gw_s 96 rfl), tw11, by decide +kernel, by decide +kernel, by decide +kernel⟩
set_option maxRecDepth 100000 in
theorem mX10_crossingsBelow : mV yX10_crossingsBelow cX10_crossingsBelow 7 (some .int) 1 := ⟨tw1756, tw1755, (gw_s 95 rfl), tw11, by decide +kernel, by decide +kernel, by decide +kernel⟩
set_option maxRecDepth 100000 in
theorem mX10_allCrossings : mV yX10_allCrossings cX10_allCrossings 3 (some .int) 0 := ⟨tw1740, tw1739, (gw_s 92 rfl), tw11, by decide +kernel, by decide +kernel, by decide +kernel⟩
set_option maxRecDepth 100000 in
theorem mX10_widthOf : mV yX10_widthOf cX10_widthOf 2 (some .int) 1 := ⟨tw1628, tw1627, (gw_s 78 rfl), tw11, by decide +kernel, by decide +kernel, by decide +kernel⟩
set_option maxRecDepth 100000 in
theorem mX10_middleColumn : mV yX10_middleColumn cX10_middleColumn 2 (some .int) 1 := ⟨tw1624, tw1623, (gw_s 77 rfl), tw11, by decide +kernel, by decide +kernel, by decide +kernel⟩
set_option maxRecDepth 100000 in
theorem mX10_unionColumn : mV yX10_unionColumn cX10_unionColumn 2 (some .int) 1 := ⟨tw1616, tw1615, (gw_s 75 rfl), tw11, by decide +kernel, by decide +kernel, by decide +kernel⟩
set_option maxRecDepth 100000 in
theorem mX10_wanted : mV yX10_wanted cX10_wanted 3 (some .int) 1 := ⟨tw1612, tw1611, (gw_s 74 rfl), tw11, by decide +kernel, by decide +kernel, by decide +kernel⟩
set_option maxRecDepth 100000 in
theorem mX10_layColumns : mV yX10_layColumns cX10_layColumns 5 none 0 := ⟨tw1604, tw1603, (gw_s 72 rfl), tw11, by decide +kernel, by decide +kernel, by decide +kernel⟩
set_option maxRecDepth 100000 in
theorem mX10_mark : mV yX10_mark cX10_mark 3 none 2 := ⟨tw1792, tw1791, (gw_s 101 rfl), tw11, by decide +kernel, by decide +kernel, by decide +kernel⟩
set_option maxRecDepth 100000 in
theorem mX10_printBox : mV yX10_printBox cX10_printBox 8 none 1 := ⟨tw1800, tw1799, (gw_s 103 rfl), tw11, by decide +kernel, by decide +kernel, by decide +kernel⟩
set_option maxRecDepth 100000 in
theorem mX10_printUnions : mV yX10_printUnions cX10_printUnions 4 none 1 := ⟨tw1788, tw1787, (gw_s 100 rfl), tw11, by decide +kernel, by decide +kernel, by decide +kernel⟩
set_option maxRecDepth 100000 in
theorem mX10_printChildren : mV yX10_printChildren cX10_printChildren 4 none 1 := ⟨tw1796, tw1795, (gw_s 102 rfl), tw11, by decide +kernel, by decide +kernel, by decide +kernel⟩
set_option maxRecDepth 100000 in
theorem mX10_layLine : mV yX10_layLine cX10_layLine 4 none 1 := ⟨tw1784, tw1783, (gw_s 99 rfl), tw11, by decide +kernel, by decide +kernel, by decide +kernel⟩
set_option maxRecDepth 100000 in
theorem mX10_chartWidth : mV yX10_chartWidth cX10_chartWidth 3 (some .int) 0 := ⟨tw1780, tw1779, (gw_s 98 rfl), tw11, by decide +kernel, by decide +kernel, by decide +kernel⟩
set_option maxRecDepth 100000 in
theorem mX10_boxCount : mV yX10_boxCount cX10_boxCount 4 (some .int) 1 := ⟨tw1555, tw1554, (gw_s 63 rfl), tw11, by decide +kernel, by decide +kernel, by decide +kernel⟩
set_option maxRecDepth 100000 in
theorem mX10_childrenOf : mV yX10_childrenOf cX10_childrenOf 4 (some .int) 1 := ⟨tw1563, tw1562, (gw_s 65 rfl), tw11, by decide +kernel, by decide +kernel, by decide +kernel⟩
set_option maxRecDepth 100000 in
theorem mX10_personsWithout : mV yX10_personsWithout cX10_personsWithout 5 (some .int) 1 := ⟨tw1559, tw1558, (gw_s 64 rfl), tw11, by decide +kernel, by decide +kernel, by decide +kernel⟩
set_option maxRecDepth 100000 in
theorem mX10_count : mV yX10_count cX10_count 2 (some .int) 1 := ⟨tw1502, tw1500, tw1501, tw11, by decide +kernel, by decide +kernel, by decide +kernel⟩
set_option maxRecDepth 100000 in
theorem mX10_unionsOf : mV yX10_unionsOf cX10_unionsOf 4 (some .int) 1 := ⟨tw1591, tw1590, (gw_s 70 rfl), tw11, by decide +kernel, by decide +kernel, by decide +kernel⟩
set_option maxRecDepth 100000 in
theorem mX10_person : mV yX10_person cX10_person 3 (some .int) 2 := ⟨tw1575, tw1573, tw1574, tw11, by decide +kernel, by decide +kernel, by decide +kernel⟩
set_option maxRecDepth 100000 in
theorem mX10_union : mV yX10_union cX10_union 3 (some .int) 2 := ⟨tw1595, tw1593, tw1594, tw11, by decide +kernel, by decide +kernel, by decide +kernel⟩
set_option maxRecDepth 100000 in
theorem mX10_children : mV yX10_children cX10_children 2 (some .int) 1 := ⟨tw1643, tw1641, tw1642, tw11, by decide +kernel, by decide +kernel, by decide +kernel⟩
set_option maxRecDepth 100000 in
theorem mX10_ancestors : mV yX10_ancestors cX10_ancestors 2 (some .int) 1 := ⟨tw1647, tw1645, tw1646, tw11, by decide +kernel, by decide +kernel, by decide +kernel⟩
set_option maxRecDepth 100000 in
theorem mX10_descendantMask : mV yX10_descendantMask cX10_descendantMask 4 (some .int) 1 := ⟨tw1659, tw1658, (gw_s 82 rfl), tw11, by decide +kernel, by decide +kernel, by decide +kernel⟩
set_option maxRecDepth 100000 in
theorem mX10_descendants : mV yX10_descendants cX10_descendants 2 (some .int) 1 := ⟨tw1655, tw1653, tw1654, tw11, by decide +kernel, by decide +kernel, by decide +kernel⟩
set_option maxRecDepth 100000 in
theorem mX10_forgetKinships : mV yX10_forgetKinships cX10_forgetKinships 2 none 0 := ⟨tw1671, tw1670, (gw_s 84 rfl), tw11, by decide +kernel, by decide +kernel, by decide +kernel⟩
set_option maxRecDepth 100000 in
theorem mX10_isLater : mV yX10_isLater cX10_isLater 3 (some .boolean) 2 := ⟨tw1680, tw1679, (gw_s 86 rfl), tw11, by decide +kernel, by decide +kernel, by decide +kernel⟩
set_option maxRecDepth 100000 in
theorem mX10_kinshipOf : mV yX10_kinshipOf cX10_kinshipOf 11 (some .long) 2 := ⟨tw1676, tw1675, (gw_s 85 rfl), tw11, by decide +kernel, by decide +kernel, by decide +kernel⟩
set_option maxRecDepth 100000 in
theorem mX10_arePersons : mV yX10_arePersons cX10_arePersons 3 (some .boolean) 2 := ⟨tw1667, tw1666, (gw_s 83 rfl), tw11, by decide +kernel, by decide +kernel, by decide +kernel⟩
set_option maxRecDepth 100000 in
theorem mX10_kinship : mV yX10_kinship cX10_kinship 3 (some .long) 2 := ⟨tw1663, tw1661, tw1662, tw11, by decide +kernel, by decide +kernel, by decide +kernel⟩
set_option maxRecDepth 100000 in
theorem mX10_isParent : mV yX10_isParent cX10_isParent 3 (some .boolean) 2 := ⟨tw1690, tw1689, (gw_s 87 rfl), tw11, by decide +kernel, by decide +kernel, by decide +kernel⟩
set_option maxRecDepth 100000 in
theorem mX10_distance : mV yX10_distance cX10_distance 9 (some .int) 2 := ⟨tw1686, tw1684, tw1685, tw11, by decide +kernel, by decide +kernel, by decide +kernel⟩
set_option maxRecDepth 100000 in
theorem mX10_beginWays : mV yX10_beginWays cX10_beginWays 3 none 1 := ⟨tw1698, tw1697, (gw_s 88 rfl), tw11, by decide +kernel, by decide +kernel, by decide +kernel⟩
set_option maxRecDepth 100000 in
theorem mX10_stepUp : mV yX10_stepUp cX10_stepUp 3 none 0 := ⟨tw1702, tw1701, (gw_s 89 rfl), tw11, by decide +kernel, by decide +kernel, by decide +kernel⟩
set_option maxRecDepth 100000 in
theorem mX10_linesTo : mV yX10_linesTo cX10_linesTo 5 (some .int) 2 := ⟨tw1694, tw1692, tw1693, tw11, by decide +kernel, by decide +kernel, by decide +kernel⟩
set_option maxRecDepth 100000 in
theorem mX10_nearestAncestor : mV yX10_nearestAncestor cX10_nearestAncestor 6 (some .int) 2 := ⟨tw1706, tw1704, tw1705, tw11, by decide +kernel, by decide +kernel, by decide +kernel⟩
set_option maxRecDepth 100000 in
theorem mX10_collapse : mV yX10_collapse cX10_collapse 5 (some .int) 2 := ⟨tw1710, tw1708, tw1709, tw11, by decide +kernel, by decide +kernel, by decide +kernel⟩
set_option maxRecDepth 100000 in
theorem mX10_isRow : mV yX10_isRow cX10_isRow 2 (some .boolean) 1 := ⟨tw1719, tw1718, (gw_s 90 rfl), tw11, by decide +kernel, by decide +kernel, by decide +kernel⟩
set_option maxRecDepth 100000 in
theorem mX10_isPlace : mV yX10_isPlace cX10_isPlace 3 (some .boolean) 2 := ⟨tw1727, tw1726, (gw_s 91 rfl), tw11, by decide +kernel, by decide +kernel, by decide +kernel⟩
set_option maxRecDepth 100000 in
theorem mX10_boxes : mV yX10_boxes cX10_boxes 2 (some .int) 1 := ⟨tw1715, tw1713, tw1714, tw11, by decide +kernel, by decide +kernel, by decide +kernel⟩
set_option maxRecDepth 100000 in
theorem mX10_box : mV yX10_box cX10_box 5 (some .int) 3 := ⟨tw1723, tw1721, tw1722, tw11, by decide +kernel, by decide +kernel, by decide +kernel⟩
set_option maxRecDepth 100000 in
theorem mX10_place : mV yX10_place cX10_place 2 (some .int) 1 := ⟨tw1732, tw1730, tw1731, tw11, by decide +kernel, by decide +kernel, by decide +kernel⟩
set_option maxRecDepth 100000 in
theorem mX10_crossings : mV yX10_crossings cX10_crossings 1 (some .int) 0 := ⟨tw1736, tw1734, tw1735, tw11, by decide +kernel, by decide +kernel, by decide +kernel⟩
set_option maxRecDepth 100000 in
theorem mX10_crossingsOf : mV yX10_crossingsOf cX10_crossingsOf 3 (some .int) 2 := ⟨tw1764, tw1762, tw1763, tw11, by decide +kernel, by decide +kernel, by decide +kernel⟩
set_option maxRecDepth 100000 in
theorem mX10_crossingsIf : mV yX10_crossingsIf cX10_crossingsIf 5 (some .int) 3 := ⟨tw1768, tw1766, tw1767, tw11, by decide +kernel, by decide +kernel, by decide +kernel⟩
set_option maxRecDepth 100000 in
theorem mX10_width : mV yX10_width cX10_width 1 (some .int) 0 := ⟨tw1776, tw1774, tw1775, tw11, by decide +kernel, by decide +kernel, by decide +kernel⟩
set_option maxRecDepth 100000 in
theorem mX10_isWidth : mS yX10_isWidth cX10_isWidth 1 (some .boolean) 1 := ⟨tw1808, tw1807, tw11, by decide +kernel, by decide +kernel, by decide +kernel⟩
set_option maxRecDepth 100000 in
theorem mX10_format : mV yX10_format cX10_format 7 (some .int) 3 := ⟨tw1805, tw1803, tw1804, tw11, by decide +kernel, by decide +kernel, by decide +kernel⟩
set_option maxRecDepth 100000 in
theorem mX10_formattedByte : mV yX10_formattedByte cX10_formattedByte 2 (some .int) 1 := ⟨tw1820, tw1818, tw1819, tw11, by decide +kernel, by decide +kernel, by decide +kernel⟩
set_option maxRecDepth 100000 in
theorem mX10_strips : mV yX10_strips cX10_strips 2 (some .int) 1 := ⟨tw1824, tw1822, tw1823, tw11, by decide +kernel, by decide +kernel, by decide +kernel⟩
set_option maxRecDepth 100000 in
theorem mX10_cutBoxes : mV yX10_cutBoxes cX10_cutBoxes 4 (some .int) 1 := ⟨tw1828, tw1826, tw1827, tw11, by decide +kernel, by decide +kernel, by decide +kernel⟩
set_option maxRecDepth 100000 in
theorem mX10_repeated : mV yX10_repeated cX10_repeated 2 (some .float) 0 := ⟨tw1832, tw1830, tw1831, tw11, by decide +kernel, by decide +kernel, by decide +kernel⟩
set_option maxRecDepth 100000 in
theorem mX10_inbreeding : mV yX10_inbreeding cX10_inbreeding 4 (some .double) 0 := ⟨tw1836, tw1834, tw1835, tw11, by decide +kernel, by decide +kernel, by decide +kernel⟩
set_option maxRecDepth 100000 in
theorem mX10_addUnion : mV yX10_addUnion cX10_addUnion 5 none 3 := ⟨tw1856, tw1855, (gw_s 106 rfl), tw11, by decide +kernel, by decide +kernel, by decide +kernel⟩
set_option maxRecDepth 100000 in
theorem mX10_marry : mV yX10_marry cX10_marry 4 (some .int) 3 := ⟨tw1840, tw1838, tw1839, tw11, by decide +kernel, by decide +kernel, by decide +kernel⟩
set_option maxRecDepth 100000 in
theorem mX10_isAncestorOfBoth : mV yX10_isAncestorOfBoth cX10_isAncestorOfBoth 4 (some .boolean) 2 := ⟨tw1868, tw1867, (gw_s 108 rfl), tw11, by decide +kernel, by decide +kernel, by decide +kernel⟩
set_option maxRecDepth 100000 in
theorem mX10_adopt : mV yX10_adopt cX10_adopt 3 (some .int) 2 := ⟨tw1864, tw1862, tw1863, tw11, by decide +kernel, by decide +kernel, by decide +kernel⟩
set_option maxRecDepth 100000 in
theorem mX10_release : mV yX10_release cX10_release 3 (some .int) 1 := ⟨tw1876, tw1874, tw1875, tw11, by decide +kernel, by decide +kernel, by decide +kernel⟩
set_option maxRecDepth 100000 in
theorem mX10_swap : mV yX10_swap cX10_swap 4 (some .int) 3 := ⟨tw1880, tw1878, tw1879, tw11, by decide +kernel, by decide +kernel, by decide +kernel⟩
set_option maxRecDepth 100000 in
theorem mX10_improveOnce : mV yX10_improveOnce cX10_improveOnce 5 (some .int) 0 := ⟨tw1889, tw1888, (gw_s 110 rfl), tw11, by decide +kernel, by decide +kernel, by decide +kernel⟩
set_option maxRecDepth 100000 in
theorem mX10_improve : mV yX10_improve cX10_improve 5 (some .int) 1 := ⟨tw1884, tw1882, tw1883, tw11, by decide +kernel, by decide +kernel, by decide +kernel⟩
set_option maxRecDepth 100000 in
theorem mX10_mainKey : mV yX10_mainKey cX10_mainKey 2 (some .int) 1 := ⟨tw1901, tw1900, (gw_s 112 rfl), tw11, by decide +kernel, by decide +kernel, by decide +kernel⟩
set_option maxRecDepth 100000 in
theorem mX10_keyOf : mV yX10_keyOf cX10_keyOf 4 (some .int) 1 := ⟨tw1897, tw1896, (gw_s 111 rfl), tw11, by decide +kernel, by decide +kernel, by decide +kernel⟩
set_option maxRecDepth 100000 in
theorem mX10_arrange : mV yX10_arrange cX10_arrange 4 (some .int) 0 := ⟨tw1893, tw1891, tw1892, tw11, by decide +kernel, by decide +kernel, by decide +kernel⟩
set_option maxRecDepth 100000 in
theorem mX10_plain : mV yX10_plain cX10_plain 1 none 0 := ⟨tw1905, tw1903, tw1904, tw11, by decide +kernel, by decide +kernel, by decide +kernel⟩
set_option maxRecDepth 100000 in
theorem mX10_copy : mS yX10_copy cX10_copy 5 none 4 := ⟨tw1852, tw1851, tw11, by decide +kernel, by decide +kernel, by decide +kernel⟩
set_option maxRecDepth 100000 in
theorem mX10_record : mV yX10_record cX10_record 2 none 0 := ⟨tw1849, tw1848, (gw_s 105 rfl), tw11, by decide +kernel, by decide +kernel, by decide +kernel⟩
set_option maxRecDepth 100000 in
theorem mX10_undoCount : mV yX10_undoCount cX10_undoCount 1 (some .int) 0 := ⟨tw1909, tw1907, tw1908, tw11, by decide +kernel, by decide +kernel, by decide +kernel⟩
set_option maxRecDepth 100000 in
theorem mX10_undo : mV yX10_undo cX10_undo 1 (some .int) 0 := ⟨tw1913, tw1911, tw1912, tw11, by decide +kernel, by decide +kernel, by decide +kernel⟩
set_option maxRecDepth 100000 in
theorem mX10_saveSnapshot : mV yX10_saveSnapshot cX10_saveSnapshot 1 none 0 := ⟨tw1917, tw1915, tw1916, tw11, by decide +kernel, by decide +kernel, by decide +kernel⟩
set_option maxRecDepth 100000 in
theorem mX10_restoreSnapshot : mV yX10_restoreSnapshot cX10_restoreSnapshot 1 (some .boolean) 0 := ⟨tw1921, tw1919, tw1920, tw11, by decide +kernel, by decide +kernel, by decide +kernel⟩
set_option maxRecDepth 100000 in
theorem mX10_feed : mV yX10_feed cX10_feed 8 (some .int) 5 := ⟨tw1925, tw1923, tw1924, tw11, by decide +kernel, by decide +kernel, by decide +kernel⟩
set_option maxRecDepth 100000 in
theorem mX10_errorPosition : mV yX10_errorPosition cX10_errorPosition 1 (some .int) 0 := ⟨tw1929, tw1927, tw1928, tw11, by decide +kernel, by decide +kernel, by decide +kernel⟩
set_option maxRecDepth 100000 in
theorem mX10_byteAt : mV yX10_byteAt cX10_byteAt 2 (some .int) 1 := ⟨tw1945, tw1944, (gw_s 115 rfl), tw11, by decide +kernel, by decide +kernel, by decide +kernel⟩
set_option maxRecDepth 100000 in
theorem mX10_isLetter : mV yX10_isLetter cX10_isLetter 2 (some .boolean) 1 := ⟨tw1949, tw1948, (gw_s 116 rfl), tw11, by decide +kernel, by decide +kernel, by decide +kernel⟩
set_option maxRecDepth 100000 in
theorem mX10_isDigit : mV yX10_isDigit cX10_isDigit 2 (some .boolean) 1 := ⟨tw1953, tw1952, (gw_s 117 rfl), tw11, by decide +kernel, by decide +kernel, by decide +kernel⟩
set_option maxRecDepth 100000 in
theorem mX10_scan : mV yX10_scan cX10_scan 1 none 0 := ⟨tw1941, tw1940, (gw_s 114 rfl), tw11, by decide +kernel, by decide +kernel, by decide +kernel⟩
set_option maxRecDepth 100000 in
theorem mX10_startText : mV yX10_startText cX10_startText 2 none 1 := ⟨tw1937, tw1936, (gw_s 113 rfl), tw11, by decide +kernel, by decide +kernel, by decide +kernel⟩
set_option maxRecDepth 100000 in
theorem mX10_finish : mV yX10_finish cX10_finish 1 (some .int) 0 := ⟨tw2023, tw2022, (gw_s 133 rfl), tw11, by decide +kernel, by decide +kernel, by decide +kernel⟩
set_option maxRecDepth 100000 in
theorem mX10_flaw : mV yX10_flaw cX10_flaw 2 none 1 := ⟨tw1975, tw1974, (gw_s 122 rfl), tw11, by decide +kernel, by decide +kernel, by decide +kernel⟩
set_option maxRecDepth 100000 in
theorem mX10_check : mV yX10_check cX10_check 3 none 2 := ⟨tw1971, tw1970, (gw_s 121 rfl), tw11, by decide +kernel, by decide +kernel, by decide +kernel⟩
set_option maxRecDepth 100000 in
theorem mX10_advance : mV yX10_advance cX10_advance 1 none 0 := ⟨tw1979, tw1978, (gw_s 123 rfl), tw11, by decide +kernel, by decide +kernel, by decide +kernel⟩
set_option maxRecDepth 100000 in
theorem mX10_isSymbol : mV yX10_isSymbol cX10_isSymbol 2 (some .boolean) 1 := ⟨tw2019, tw2018, (gw_s 132 rfl), tw11, by decide +kernel, by decide +kernel, by decide +kernel⟩
set_option maxRecDepth 100000 in
theorem mX10_isWord : mV yX10_isWord cX10_isWord 4 (some .boolean) 1 := ⟨tw1961, tw1960, (gw_s 119 rfl), tw11, by decide +kernel, by decide +kernel, by decide +kernel⟩
set_option maxRecDepth 100000 in
theorem mX10_accept : mV yX10_accept cX10_accept 3 (some .boolean) 1 := ⟨tw2060, tw2059, (gw_s 140 rfl), tw11, by decide +kernel, by decide +kernel, by decide +kernel⟩
set_option maxRecDepth 100000 in
theorem mX10_expect : mV yX10_expect cX10_expect 2 none 1 := ⟨tw2015, tw2014, (gw_s 131 rfl), tw11, by decide +kernel, by decide +kernel, by decide +kernel⟩
set_option maxRecDepth 100000 in
theorem mX10_value : mV yX10_value cX10_value 3 (some .int) 0 := ⟨tw1996, tw1995, (gw_s 127 rfl), tw11, by decide +kernel, by decide +kernel, by decide +kernel⟩
set_option maxRecDepth 100000 in
theorem mX10_readNumber : mV yX10_readNumber cX10_readNumber 4 (some .int) 2 := ⟨tw1992, tw1991, (gw_s 126 rfl), tw11, by decide +kernel, by decide +kernel, by decide +kernel⟩
set_option maxRecDepth 100000 in
theorem mX10_nameHere : mV yX10_nameHere cX10_nameHere 4 (some .long) 0 := ⟨tw1987, tw1986, (gw_s 125 rfl), tw11, by decide +kernel, by decide +kernel, by decide +kernel⟩
set_option maxRecDepth 100000 in
theorem mX10_personHere : mV yX10_personHere cX10_personHere 2 (some .int) 0 := ⟨tw1983, tw1982, (gw_s 124 rfl), tw11, by decide +kernel, by decide +kernel, by decide +kernel⟩
set_option maxRecDepth 100000 in
theorem mX10_readPerson : mV yX10_readPerson cX10_readPerson 2 none 0 := ⟨tw1967, tw1966, (gw_s 120 rfl), tw11, by decide +kernel, by decide +kernel, by decide +kernel⟩
set_option maxRecDepth 100000 in
theorem mX10_readName : mV yX10_readName cX10_readName 2 (some .int) 0 := ⟨tw2007, tw2006, (gw_s 129 rfl), tw11, by decide +kernel, by decide +kernel, by decide +kernel⟩
set_option maxRecDepth 100000 in
theorem mX10_readChild : mV yX10_readChild cX10_readChild 3 none 1 := ⟨tw2011, tw2010, (gw_s 130 rfl), tw11, by decide +kernel, by decide +kernel, by decide +kernel⟩
set_option maxRecDepth 100000 in
theorem mX10_readUnion : mV yX10_readUnion cX10_readUnion 4 none 0 := ⟨tw2003, tw2002, (gw_s 128 rfl), tw11, by decide +kernel, by decide +kernel, by decide +kernel⟩
set_option maxRecDepth 100000 in
theorem mX10_readClause : mV yX10_readClause cX10_readClause 1 none 0 := ⟨tw1957, tw1956, (gw_s 118 rfl), tw11, by decide +kernel, by decide +kernel, by decide +kernel⟩
set_option maxRecDepth 100000 in
theorem mX10_load : mV yX10_load cX10_load 3 (some .int) 1 := ⟨tw1933, tw1931, tw1932, tw11, by decide +kernel, by decide +kernel, by decide +kernel⟩
set_option maxRecDepth 100000 in
theorem mX10_emit : mV yX10_emit cX10_emit 2 none 1 := ⟨tw2050, tw2049, (gw_s 138 rfl), tw11, by decide +kernel, by decide +kernel, by decide +kernel⟩
set_option maxRecDepth 100000 in
theorem mX10_enter : mV yX10_enter cX10_enter 1 none 0 := ⟨tw2046, tw2045, (gw_s 137 rfl), tw11, by decide +kernel, by decide +kernel, by decide +kernel⟩
set_option maxRecDepth 100000 in
theorem mX10_compileValue : mV yX10_compileValue cX10_compileValue 2 none 0 := ⟨tw2054, tw2053, (gw_s 139 rfl), tw11, by decide +kernel, by decide +kernel, by decide +kernel⟩
set_option maxRecDepth 100000 in
theorem mX10_compileFactor : mV yX10_compileFactor cX10_compileFactor 2 none 0 := ⟨tw2041, tw2040, (gw_s 136 rfl), tw11, by decide +kernel, by decide +kernel, by decide +kernel⟩
set_option maxRecDepth 100000 in
theorem mX10_compileConjunction : mV yX10_compileConjunction cX10_compileConjunction 1 none 0 := ⟨tw2037, tw2036, (gw_s 135 rfl), tw11, by decide +kernel, by decide +kernel, by decide +kernel⟩
set_option maxRecDepth 100000 in
theorem mX10_compileTest : mV yX10_compileTest cX10_compileTest 1 none 0 := ⟨tw2033, tw2032, (gw_s 134 rfl), tw11, by decide +kernel, by decide +kernel, by decide +kernel⟩
set_option maxRecDepth 100000 in
theorem mX10_operate : mS yX10_operate cX10_operate 5 (some .long) 3 := ⟨tw2073, tw2072, tw11, by decide +kernel, by decide +kernel, by decide +kernel⟩
set_option maxRecDepth 100000 in
theorem mX10_property : mV yX10_property cX10_property 3 (some .long) 2 := ⟨tw2070, tw2069, (gw_s 142 rfl), tw11, by decide +kernel, by decide +kernel, by decide +kernel⟩
set_option maxRecDepth 100000 in
theorem mX10_holdsFor : mV yX10_holdsFor cX10_holdsFor 5 (some .boolean) 1 := ⟨tw2066, tw2065, (gw_s 141 rfl), tw11, by decide +kernel, by decide +kernel, by decide +kernel⟩
set_option maxRecDepth 100000 in
theorem mX10_query : mV yX10_query cX10_query 5 (some .int) 1 := ⟨tw2027, tw2025, tw2026, tw11, by decide +kernel, by decide +kernel, by decide +kernel⟩
set_option maxRecDepth 100000 in
theorem mX0_layOut : mV yX0_layOut cX0_layOut 6 none 0 := ⟨tw486, tw484, tw485, tw6, by decide +kernel, by decide +kernel, by decide +kernel⟩
set_option maxRecDepth 100000 in
theorem mX0_wantedColumn : mV yX0_wantedColumn cX0_wantedColumn 2 (some .int) 1 := ⟨tw492, tw491, (gw_s 3 rfl), tw6, by decide +kernel, by decide +kernel, by decide +kernel⟩
set_option maxRecDepth 100000 in
theorem mX0_widthOf : mV yX0_widthOf cX0_widthOf 2 (some .int) 1 := ⟨tw502, tw500, tw501, tw6, by decide +kernel, by decide +kernel, by decide +kernel⟩
set_option maxRecDepth 100000 in
theorem mX0_middleOfUnion : mV yX0_middleOfUnion cX0_middleOfUnion 4 (some .int) 1 := ⟨tw498, tw496, tw497, tw6, by decide +kernel, by decide +kernel, by decide +kernel⟩
set_option maxRecDepth 100000 in
theorem mX0_countCut : mV yX0_countCut cX0_countCut 5 (some .int) 1 := ⟨tw1230, tw1228, tw1229, tw6, by decide +kernel, by decide +kernel, by decide +kernel⟩
set_option maxRecDepth 100000 in
theorem mX0_isCut : mV yX0_isCut cX0_isCut 5 (some .boolean) 2 := ⟨tw1234, tw1233, (gw_s 40 rfl), tw6, by decide +kernel, by decide +kernel, by decide +kernel⟩
set_option maxRecDepth 100000 in
theorem mX1_hasPerson : mV yX1_hasPerson cX1_hasPerson 2 (some .boolean) 1 := ⟨tw998, tw996, tw997, tw3, by decide +kernel, by decide +kernel, by decide +kernel⟩
set_option maxRecDepth 100000 in
theorem mX1_hasUnion : mV yX1_hasUnion cX1_hasUnion 2 (some .boolean) 1 := ⟨tw1034, tw1032, tw1033, tw3, by decide +kernel, by decide +kernel, by decide +kernel⟩
set_option maxRecDepth 100000 in
theorem mX1_clear : mV yX1_clear cX1_clear 1 none 0 := ⟨tw818, tw816, tw817, tw3, by decide +kernel, by decide +kernel, by decide +kernel⟩
set_option maxRecDepth 100000 in
theorem mX1_addPerson : mV yX1_addPerson cX1_addPerson 2 (some .int) 0 := ⟨tw921, tw919, tw920, tw3, by decide +kernel, by decide +kernel, by decide +kernel⟩
set_option maxRecDepth 100000 in
theorem mX1_addLetter : mV yX1_addLetter cX1_addLetter 4 none 2 := ⟨tw929, tw927, tw928, tw3, by decide +kernel, by decide +kernel, by decide +kernel⟩
set_option maxRecDepth 100000 in
theorem mX1_addUnion : mV yX1_addUnion cX1_addUnion 5 (some .int) 3 := ⟨tw963, tw961, tw962, tw3, by decide +kernel, by decide +kernel, by decide +kernel⟩
set_option maxRecDepth 100000 in
theorem mX1_copyFrom : mV yX1_copyFrom cX1_copyFrom 2 none 1 := ⟨tw977, tw975, tw976, tw3, by decide +kernel, by decide +kernel, by decide +kernel⟩
set_option maxRecDepth 100000 in
theorem mX1_refresh : mV yX1_refresh cX1_refresh 4 none 0 := ⟨tw695, tw693, tw694, tw3, by decide +kernel, by decide +kernel, by decide +kernel⟩
set_option maxRecDepth 100000 in
theorem mX1_passDown : mV yX1_passDown cX1_passDown 6 (some .boolean) 1 := ⟨tw702, tw701, (gw_s 21 rfl), tw3, by decide +kernel, by decide +kernel, by decide +kernel⟩
set_option maxRecDepth 100000 in
theorem mX1_noteLevel : mV yX1_noteLevel cX1_noteLevel 5 none 1 := ⟨tw714, tw713, (gw_s 22 rfl), tw3, by decide +kernel, by decide +kernel, by decide +kernel⟩
set_option maxRecDepth 100000 in
theorem mX1_lineageMask : mV yX1_lineageMask cX1_lineageMask 2 (some .int) 1 := ⟨tw709, tw707, tw708, tw3, by decide +kernel, by decide +kernel, by decide +kernel⟩
set_option maxRecDepth 100000 in
theorem mX1_hasParents : mV yX1_hasParents cX1_hasParents 2 (some .boolean) 1 := ⟨tw409, tw407, tw408, tw3, by decide +kernel, by decide +kernel, by decide +kernel⟩
set_option maxRecDepth 100000 in
theorem mX1_firstParent : mV yX1_firstParent cX1_firstParent 2 (some .int) 1 := ⟨tw585, tw583, tw584, tw3, by decide +kernel, by decide +kernel, by decide +kernel⟩
set_option maxRecDepth 100000 in
theorem mX1_secondParent : mV yX1_secondParent cX1_secondParent 2 (some .int) 1 := ⟨tw589, tw587, tw588, tw3, by decide +kernel, by decide +kernel, by decide +kernel⟩
set_option maxRecDepth 100000 in
theorem mX1_otherPartner : mV yX1_otherPartner cX1_otherPartner 4 (some .int) 2 := ⟨tw640, tw638, tw639, tw3, by decide +kernel, by decide +kernel, by decide +kernel⟩
set_option maxRecDepth 100000 in
theorem mX1_isPartner : mV yX1_isPartner cX1_isPartner 3 (some .boolean) 2 := ⟨tw422, tw420, tw421, tw3, by decide +kernel, by decide +kernel, by decide +kernel⟩
set_option maxRecDepth 100000 in
theorem mX1_unionOfPair : mV yX1_unionOfPair cX1_unionOfPair 4 (some .int) 2 := ⟨tw959, tw957, tw958, tw3, by decide +kernel, by decide +kernel, by decide +kernel⟩
set_option maxRecDepth 100000 in
theorem mX1_partnerOrAncestor : mV yX1_partnerOrAncestor cX1_partnerOrAncestor 4 (some .boolean) 2 := ⟨tw972, tw970, tw971, tw3, by decide +kernel, by decide +kernel, by decide +kernel⟩
set_option maxRecDepth 100000 in
theorem mX1_childMask : mV yX1_childMask cX1_childMask 4 (some .int) 1 := ⟨tw426, tw424, tw425, tw3, by decide +kernel, by decide +kernel, by decide +kernel⟩
set_option maxRecDepth 100000 in
theorem mX1_childMaskOfPerson : mV yX1_childMaskOfPerson cX1_childMaskOfPerson 4 (some .int) 1 := ⟨tw418, tw416, tw417, tw3, by decide +kernel, by decide +kernel, by decide +kernel⟩
set_option maxRecDepth 100000 in
theorem mX1_descendantMask : mV yX1_descendantMask cX1_descendantMask 4 (some .int) 1 := ⟨tw1070, tw1068, tw1069, tw3, by decide +kernel, by decide +kernel, by decide +kernel⟩
set_option maxRecDepth 100000 in
theorem mX1_countUnionsOf : mV yX1_countUnionsOf cX1_countUnionsOf 4 (some .int) 1 := ⟨tw1018, tw1016, tw1017, tw3, by decide +kernel, by decide +kernel, by decide +kernel⟩
set_option maxRecDepth 100000 in
theorem mX1_countWithoutParents : mV yX1_countWithoutParents cX1_countWithoutParents 3 (some .int) 0 := ⟨tw405, tw403, tw404, tw3, by decide +kernel, by decide +kernel, by decide +kernel⟩
set_option maxRecDepth 100000 in
theorem mX1_countWithoutChildren : mV yX1_countWithoutChildren cX1_countWithoutChildren 3 (some .int) 0 := ⟨tw414, tw412, tw413, tw3, by decide +kernel, by decide +kernel, by decide +kernel⟩
set_option maxRecDepth 100000 in
theorem mX2_forgetAll : mV yX2_forgetAll cX2_forgetAll 1 none 0 := ⟨tw982, tw980, tw981, tw8, by decide +kernel, by decide +kernel, by decide +kernel⟩
set_option maxRecDepth 100000 in
theorem mX2_record : mV yX2_record cX2_record 1 none 0 := ⟨tw612, tw610, tw611, tw8, by decide +kernel, by decide +kernel, by decide +kernel⟩
set_option maxRecDepth 100000 in
theorem mX2_takeBack : mV yX2_takeBack cX2_takeBack 1 none 0 := ⟨tw686, tw684, tw685, tw8, by decide +kernel, by decide +kernel, by decide +kernel⟩
set_option maxRecDepth 100000 in
theorem mX2_keepSnapshot : mV yX2_keepSnapshot cX2_keepSnapshot 1 none 0 := ⟨tw727, tw725, tw726, tw8, by decide +kernel, by decide +kernel, by decide +kernel⟩
set_option maxRecDepth 100000 in
theorem mX2_bringSnapshot : mV yX2_bringSnapshot cX2_bringSnapshot 1 none 0 := ⟨tw735, tw733, tw734, tw8, by decide +kernel, by decide +kernel, by decide +kernel⟩
set_option maxRecDepth 100000 in
theorem mX2_save : mV yX2_save cX2_save 3 none 1 := ⟨tw616, tw615, (gw_s 13 rfl), tw8, by decide +kernel, by decide +kernel, by decide +kernel⟩
set_option maxRecDepth 100000 in
theorem mX2_bring : mV yX2_bring cX2_bring 3 none 1 := ⟨tw690, tw689, (gw_s 20 rfl), tw8, by decide +kernel, by decide +kernel, by decide +kernel⟩
set_option maxRecDepth 100000 in
theorem mX3_hasRoom : mV yX3_hasRoom cX3_hasRoom 1 (some .boolean) 0 := ⟨tw379, tw377, tw378, tw2, by decide +kernel, by decide +kernel, by decide +kernel⟩
set_option maxRecDepth 100000 in
theorem mX3_append : mV yX3_append cX3_append 3 none 1 := ⟨tw383, tw381, tw382, tw2, by decide +kernel, by decide +kernel, by decide +kernel⟩
set_option maxRecDepth 100000 in
theorem mX3_open : mV yX3_open cX3_open 2 none 1 := ⟨tw823, tw821, tw822, tw2, by decide +kernel, by decide +kernel, by decide +kernel⟩
set_option maxRecDepth 100000 in
theorem mX3_advance : mV yX3_advance cX3_advance 1 none 0 := ⟨tw827, tw825, tw826, tw2, by decide +kernel, by decide +kernel, by decide +kernel⟩
set_option maxRecDepth 100000 in
theorem mX3_kindOf : mS yX3_kindOf cX3_kindOf 1 (some .int) 1 := ⟨tw835, tw834, tw2, by decide +kernel, by decide +kernel, by decide +kernel⟩
set_option maxRecDepth 100000 in
theorem mX3_isFine : mV yX3_isFine cX3_isFine 1 (some .boolean) 0 := ⟨tw831, tw829, tw830, tw2, by decide +kernel, by decide +kernel, by decide +kernel⟩
set_option maxRecDepth 100000 in
theorem mX3_fail : mV yX3_fail cX3_fail 2 none 1 := ⟨tw899, tw897, tw898, tw2, by decide +kernel, by decide +kernel, by decide +kernel⟩
set_option maxRecDepth 100000 in
theorem mX3_wordLength : mV yX3_wordLength cX3_wordLength 1 (some .int) 0 := ⟨tw908, tw906, tw907, tw2, by decide +kernel, by decide +kernel, by decide +kernel⟩
set_option maxRecDepth 100000 in
theorem mX3_letter : mV yX3_letter cX3_letter 2 (some .int) 1 := ⟨tw925, tw923, tw924, tw2, by decide +kernel, by decide +kernel, by decide +kernel⟩
set_option maxRecDepth 100000 in
theorem mX3_isWord : mV yX3_isWord cX3_isWord 3 (some .boolean) 1 := ⟨tw843, tw841, tw842, tw2, by decide +kernel, by decide +kernel, by decide +kernel⟩
set_option maxRecDepth 100000 in
theorem mX3_isSpelled : mV yX3_isSpelled cX3_isSpelled 5 (some .boolean) 3 := ⟨tw917, tw915, tw916, tw2, by decide +kernel, by decide +kernel, by decide +kernel⟩
set_option maxRecDepth 100000 in
theorem mX3_isSign : mV yX3_isSign cX3_isSign 2 (some .boolean) 1 := ⟨tw942, tw940, tw941, tw2, by decide +kernel, by decide +kernel, by decide +kernel⟩
set_option maxRecDepth 100000 in
theorem mX4_printLine : mV yX4_printLine cX4_printLine 3 none 1 := ⟨tw519, tw517, tw518, tw7, by decide +kernel, by decide +kernel, by decide +kernel⟩
set_option maxRecDepth 100000 in
theorem mX4_clearLine : mV yX4_clearLine cX4_clearLine 2 none 0 := ⟨tw523, tw522, (gw_s 4 rfl), tw7, by decide +kernel, by decide +kernel, by decide +kernel⟩
set_option maxRecDepth 100000 in
theorem mX4_printByte : mV yX4_printByte cX4_printByte 3 none 2 := ⟨tw540, tw539, (gw_s 7 rfl), tw7, by decide +kernel, by decide +kernel, by decide +kernel⟩
set_option maxRecDepth 100000 in
theorem mX4_printBoxes : mV yX4_printBoxes cX4_printBoxes 3 none 1 := ⟨tw528, tw527, (gw_s 5 rfl), tw7, by decide +kernel, by decide +kernel, by decide +kernel⟩
set_option maxRecDepth 100000 in
theorem mX4_printBox : mV yX4_printBox cX4_printBox 7 none 1 := ⟨tw534, tw533, (gw_s 6 rfl), tw7, by decide +kernel, by decide +kernel, by decide +kernel⟩
set_option maxRecDepth 100000 in
theorem mX4_printUnionMarks : mV yX4_printUnionMarks cX4_printUnionMarks 3 none 1 := ⟨tw546, tw545, (gw_s 8 rfl), tw7, by decide +kernel, by decide +kernel, by decide +kernel⟩
set_option maxRecDepth 100000 in
theorem mX4_freeColumn : mV yX4_freeColumn cX4_freeColumn 3 (some .int) 1 := ⟨tw551, tw550, (gw_s 9 rfl), tw7, by decide +kernel, by decide +kernel, by decide +kernel⟩
set_option maxRecDepth 100000 in
theorem mX4_printPersonMarks : mV yX4_printPersonMarks cX4_printPersonMarks 4 none 1 := ⟨tw558, tw557, (gw_s 10 rfl), tw7, by decide +kernel, by decide +kernel, by decide +kernel⟩
set_option maxRecDepth 100000 in
theorem mX4_markOf : mS yX4_markOf cX4_markOf 1 (some .int) 1 := ⟨tw554, tw553, tw7, by decide +kernel, by decide +kernel, by decide +kernel⟩
set_option maxRecDepth 100000 in
theorem mX4_widest : mV yX4_widest cX4_widest 3 (some .int) 0 := ⟨tw515, tw513, tw514, tw7, by decide +kernel, by decide +kernel, by decide +kernel⟩
set_option maxRecDepth 100000 in
theorem mX4_cutText : mV yX4_cutText cX4_cutText 7 none 2 := ⟨tw1212, tw1210, tw1211, tw7, by decide +kernel, by decide +kernel, by decide +kernel⟩
set_option maxRecDepth 100000 in
theorem mX5_read : mV yX5_read cX5_read 4 (some .int) 1 := ⟨tw1300, tw1298, tw1299, tw10, by decide +kernel, by decide +kernel, by decide +kernel⟩
set_option maxRecDepth 100000 in
theorem mX5_firstOf : mS yX5_firstOf cX5_firstOf 2 (some .int) 1 := ⟨tw1366, tw1365, tw10, by decide +kernel, by decide +kernel, by decide +kernel⟩
set_option maxRecDepth 100000 in
theorem mX5_readTest : mV yX5_readTest cX5_readTest 5 (some .int) 1 := ⟨tw1324, tw1323, (gw_s 45 rfl), tw10, by decide +kernel, by decide +kernel, by decide +kernel⟩
set_option maxRecDepth 100000 in
theorem mX5_readFactor : mV yX5_readFactor cX5_readFactor 4 (some .int) 1 := ⟨tw1328, tw1327, (gw_s 46 rfl), tw10, by decide +kernel, by decide +kernel, by decide +kernel⟩
set_option maxRecDepth 100000 in
theorem mX5_everybody : mV yX5_everybody cX5_everybody 1 (some .int) 0 := ⟨tw1360, tw1359, (gw_s 50 rfl), tw10, by decide +kernel, by decide +kernel, by decide +kernel⟩
set_option maxRecDepth 100000 in
theorem mX5_readComparison : mV yX5_readComparison cX5_readComparison 4 (some .int) 0 := ⟨tw1334, tw1333, (gw_s 47 rfl), tw10, by decide +kernel, by decide +kernel, by decide +kernel⟩
set_option maxRecDepth 100000 in
theorem mX5_holds : mS yX5_holds cX5_holds 3 (some .boolean) 3 := ⟨tw1355, tw1354, tw10, by decide +kernel, by decide +kernel, by decide +kernel⟩
set_option maxRecDepth 100000 in
theorem mX5_readValue : mV yX5_readValue cX5_readValue 2 none 1 := ⟨tw1338, tw1337, (gw_s 48 rfl), tw10, by decide +kernel, by decide +kernel, by decide +kernel⟩
set_option maxRecDepth 100000 in
theorem mX5_takeProperty : mV yX5_takeProperty cX5_takeProperty 4 none 2 := ⟨tw1344, tw1343, (gw_s 49 rfl), tw10, by decide +kernel, by decide +kernel, by decide +kernel⟩
set_option maxRecDepth 100000 in
theorem mX5_noteProperties : mV yX5_noteProperties cX5_noteProperties 2 none 0 := ⟨tw1304, tw1303, (gw_s 43 rfl), tw10, by decide +kernel, by decide +kernel, by decide +kernel⟩
set_option maxRecDepth 100000 in
theorem mX5_noteProperty : mV yX5_noteProperty cX5_noteProperty 4 none 3 := ⟨tw1308, tw1307, (gw_s 44 rfl), tw10, by decide +kernel, by decide +kernel, by decide +kernel⟩
set_option maxRecDepth 100000 in
theorem mX6_kinshipOf : mV yX6_kinshipOf cX6_kinshipOf 4 (some .long) 2 := ⟨tw593, tw591, tw592, tw4, by decide +kernel, by decide +kernel, by decide +kernel⟩
set_option maxRecDepth 100000 in
theorem mX6_putKinship : mV yX6_putKinship cX6_putKinship 6 none 3 := ⟨tw598, tw597, (gw_s 12 rfl), tw4, by decide +kernel, by decide +kernel, by decide +kernel⟩
set_option maxRecDepth 100000 in
theorem mX6_noteKinships : mV yX6_noteKinships cX6_noteKinships 3 none 0 := ⟨tw576, tw574, tw575, tw4, by decide +kernel, by decide +kernel, by decide +kernel⟩
set_option maxRecDepth 100000 in
theorem mX6_noteKinshipsOf : mV yX6_noteKinshipsOf cX6_noteKinshipsOf 9 none 2 := ⟨tw581, tw580, (gw_s 11 rfl), tw4, by decide +kernel, by decide +kernel, by decide +kernel⟩
set_option maxRecDepth 100000 in
theorem mX6_sumOfPartners : mV yX6_sumOfPartners cX6_sumOfPartners 4 (some .long) 0 := ⟨tw603, tw601, tw602, tw4, by decide +kernel, by decide +kernel, by decide +kernel⟩
set_option maxRecDepth 100000 in
theorem mX6_stepsBetween : mV yX6_stepsBetween cX6_stepsBetween 5 (some .int) 2 := ⟨tw1089, tw1087, tw1088, tw4, by decide +kernel, by decide +kernel, by decide +kernel⟩
set_option maxRecDepth 100000 in
theorem mX6_neighbours : mV yX6_neighbours cX6_neighbours 5 (some .int) 1 := ⟨tw1094, tw1093, (gw_s 35 rfl), tw4, by decide +kernel, by decide +kernel, by decide +kernel⟩
set_option maxRecDepth 100000 in
theorem mX6_countLines : mV yX6_countLines cX6_countLines 5 (some .int) 2 := ⟨tw1105, tw1103, tw1104, tw4, by decide +kernel, by decide +kernel, by decide +kernel⟩
set_option maxRecDepth 100000 in
theorem mX6_nearestCommon : mV yX6_nearestCommon cX6_nearestCommon 7 (some .int) 2 := ⟨tw1118, tw1116, tw1117, tw4, by decide +kernel, by decide +kernel, by decide +kernel⟩
set_option maxRecDepth 100000 in
theorem mX6_countMissing : mV yX6_countMissing cX6_countMissing 6 (some .int) 2 := ⟨tw1131, tw1129, tw1130, tw4, by decide +kernel, by decide +kernel, by decide +kernel⟩
set_option maxRecDepth 100000 in
theorem mX6_stepToParents : mV yX6_stepToParents cX6_stepToParents 2 none 0 := ⟨tw1135, tw1134, (gw_s 36 rfl), tw4, by decide +kernel, by decide +kernel, by decide +kernel⟩
set_option maxRecDepth 100000 in
theorem mX6_addWays : mV yX6_addWays cX6_addWays 3 none 2 := ⟨tw1140, tw1139, (gw_s 37 rfl), tw4, by decide +kernel, by decide +kernel, by decide +kernel⟩
set_option maxRecDepth 100000 in
theorem mX7_layPlain : mV yX7_layPlain cX7_layPlain 3 none 0 := ⟨tw662, tw660, tw661, tw5, by decide +kernel, by decide +kernel, by decide +kernel⟩
set_option maxRecDepth 100000 in
theorem mX7_noteBoxesOfUnions : mV yX7_noteBoxesOfUnions cX7_noteBoxesOfUnions 5 none 0 := ⟨tw666, tw665, (gw_s 17 rfl), tw5, by decide +kernel, by decide +kernel, by decide +kernel⟩
set_option maxRecDepth 100000 in
theorem mX7_layRow : mV yX7_layRow cX7_layRow 5 (some .int) 2 := ⟨tw670, tw669, (gw_s 18 rfl), tw5, by decide +kernel, by decide +kernel, by decide +kernel⟩
set_option maxRecDepth 100000 in
theorem mX7_notePlaces : mV yX7_notePlaces cX7_notePlaces 3 none 0 := ⟨tw674, tw673, (gw_s 19 rfl), tw5, by decide +kernel, by decide +kernel, by decide +kernel⟩
set_option maxRecDepth 100000 in
theorem mX7_saveOrder : mV yX7_saveOrder cX7_saveOrder 3 none 2 := ⟨tw625, tw623, tw624, tw5, by decide +kernel, by decide +kernel, by decide +kernel⟩
set_option maxRecDepth 100000 in
theorem mX7_bringOrder : mV yX7_bringOrder cX7_bringOrder 3 none 2 := ⟨tw718, tw716, tw717, tw5, by decide +kernel, by decide +kernel, by decide +kernel⟩
set_option maxRecDepth 100000 in
theorem mX7_boxCount : mV yX7_boxCount cX7_boxCount 1 (some .int) 0 := ⟨tw398, tw396, tw397, tw5, by decide +kernel, by decide +kernel, by decide +kernel⟩
set_option maxRecDepth 100000 in
theorem mX7_boxCountOf : mV yX7_boxCountOf cX7_boxCountOf 2 (some .int) 1 := ⟨tw466, tw464, tw465, tw5, by decide +kernel, by decide +kernel, by decide +kernel⟩
set_option maxRecDepth 100000 in
theorem mX7_boxAt : mV yX7_boxAt cX7_boxAt 3 (some .int) 2 := ⟨tw470, tw468, tw469, tw5, by decide +kernel, by decide +kernel, by decide +kernel⟩
set_option maxRecDepth 100000 in
theorem mX7_personOf : mV yX7_personOf cX7_personOf 2 (some .int) 1 := ⟨tw506, tw504, tw505, tw5, by decide +kernel, by decide +kernel, by decide +kernel⟩
set_option maxRecDepth 100000 in
theorem mX7_middleOf : mV yX7_middleOf cX7_middleOf 2 (some .int) 1 := ⟨tw478, tw476, tw477, tw5, by decide +kernel, by decide +kernel, by decide +kernel⟩
set_option maxRecDepth 100000 in
theorem mX7_exchange : mV yX7_exchange cX7_exchange 6 none 3 := ⟨tw654, tw652, tw653, tw5, by decide +kernel, by decide +kernel, by decide +kernel⟩
set_option maxRecDepth 100000 in
theorem mX7_countAllCrossings : mV yX7_countAllCrossings cX7_countAllCrossings 3 (some .int) 0 := ⟨tw437, tw435, tw436, tw5, by decide +kernel, by decide +kernel, by decide +kernel⟩
set_option maxRecDepth 100000 in
theorem mX7_countCrossingsIn : mV yX7_countCrossingsIn cX7_countCrossingsIn 4 (some .int) 1 := ⟨tw441, tw439, tw440, tw5, by decide +kernel, by decide +kernel, by decide +kernel⟩
set_option maxRecDepth 100000 in
theorem mX7_countCrossed : mV yX7_countCrossed cX7_countCrossed 5 (some .int) 2 := ⟨tw445, tw444, (gw_s 0 rfl), tw5, by decide +kernel, by decide +kernel, by decide +kernel⟩
set_option maxRecDepth 100000 in
theorem mX7_cross : mV yX7_cross cX7_cross 7 (some .boolean) 2 := ⟨tw449, tw448, (gw_s 1 rfl), tw5, by decide +kernel, by decide +kernel, by decide +kernel⟩
set_option maxRecDepth 100000 in
theorem mX7_liesBetween : mS yX7_liesBetween cX7_liesBetween 3 (some .boolean) 3 := ⟨tw452, tw451, tw5, by decide +kernel, by decide +kernel, by decide +kernel⟩
set_option maxRecDepth 100000 in
theorem mX7_countCrossingsBelow : mV yX7_countCrossingsBelow cX7_countCrossingsBelow 8 (some .int) 1 := ⟨tw462, tw460, tw461, tw5, by decide +kernel, by decide +kernel, by decide +kernel⟩
set_option maxRecDepth 100000 in
theorem mX7_middleOfParents : mV yX7_middleOfParents cX7_middleOfParents 2 (some .int) 1 := ⟨tw474, tw473, (gw_s 2 rfl), tw5, by decide +kernel, by decide +kernel, by decide +kernel⟩
set_option maxRecDepth 100000 in
theorem mX7_swapWhereBetter : mV yX7_swapWhereBetter cX7_swapWhereBetter 6 (some .int) 0 := ⟨tw1284, tw1282, tw1283, tw5, by decide +kernel, by decide +kernel, by decide +kernel⟩
set_option maxRecDepth 100000 in
theorem mX7_countCrossingsAround : mV yX7_countCrossingsAround cX7_countCrossingsAround 2 (some .int) 1 := ⟨tw1288, tw1287, (gw_s 42 rfl), tw5, by decide +kernel, by decide +kernel, by decide +kernel⟩
set_option maxRecDepth 100000 in
theorem mX7_sortByKeys : mV yX7_sortByKeys cX7_sortByKeys 4 none 0 := ⟨tw631, tw629, tw630, tw5, by decide +kernel, by decide +kernel, by decide +kernel⟩
set_option maxRecDepth 100000 in
theorem mX7_keyOf : mV yX7_keyOf cX7_keyOf 6 (some .int) 2 := ⟨tw635, tw634, (gw_s 14 rfl), tw5, by decide +kernel, by decide +kernel, by decide +kernel⟩
set_option maxRecDepth 100000 in
theorem mX7_sortRow : mV yX7_sortRow cX7_sortRow 4 none 1 := ⟨tw646, tw645, (gw_s 15 rfl), tw5, by decide +kernel, by decide +kernel, by decide +kernel⟩
set_option maxRecDepth 100000 in
theorem mX7_keyAt : mV yX7_keyAt cX7_keyAt 3 (some .int) 2 := ⟨tw650, tw649, (gw_s 16 rfl), tw5, by decide +kernel, by decide +kernel, by decide +kernel⟩
set_option maxRecDepth 100000 in
theorem mX8_read : mV yX8_read cX8_read 3 (some .int) 1 := ⟨tw814, tw812, tw813, tw9, by decide +kernel, by decide +kernel, by decide +kernel⟩
set_option maxRecDepth 100000 in
theorem mX8_readPerson : mV yX8_readPerson cX8_readPerson 3 none 0 := ⟨tw895, tw894, (gw_s 24 rfl), tw9, by decide +kernel, by decide +kernel, by decide +kernel⟩
set_option maxRecDepth 100000 in
theorem mX8_checkNewName : mV yX8_checkNewName cX8_checkNewName 1 none 0 := ⟨tw904, tw903, (gw_s 25 rfl), tw9, by decide +kernel, by decide +kernel, by decide +kernel⟩
set_option maxRecDepth 100000 in
theorem mX8_readUnion : mV yX8_readUnion cX8_readUnion 6 none 0 := ⟨tw947, tw946, (gw_s 29 rfl), tw9, by decide +kernel, by decide +kernel, by decide +kernel⟩
set_option maxRecDepth 100000 in
theorem mX8_checkPair : mV yX8_checkPair cX8_checkPair 3 none 2 := ⟨tw955, tw954, (gw_s 31 rfl), tw9, by decide +kernel, by decide +kernel, by decide +kernel⟩
set_option maxRecDepth 100000 in
theorem mX8_readChild : mV yX8_readChild cX8_readChild 3 none 1 := ⟨tw967, tw966, (gw_s 32 rfl), tw9, by decide +kernel, by decide +kernel, by decide +kernel⟩
set_option maxRecDepth 100000 in
theorem mX8_checkedPerson : mV yX8_checkedPerson cX8_checkedPerson 2 (some .int) 0 := ⟨tw951, tw950, (gw_s 30 rfl), tw9, by decide +kernel, by decide +kernel, by decide +kernel⟩
set_option maxRecDepth 100000 in
theorem mX8_personNamed : mV yX8_personNamed cX8_personNamed 2 (some .int) 0 := ⟨tw912, tw911, (gw_s 26 rfl), tw9, by decide +kernel, by decide +kernel, by decide +kernel⟩
set_option maxRecDepth 100000 in
theorem mX8_readYear : mV yX8_readYear cX8_readYear 2 (some .int) 0 := ⟨tw933, tw932, (gw_s 27 rfl), tw9, by decide +kernel, by decide +kernel, by decide +kernel⟩
set_option maxRecDepth 100000 in
theorem mX8_readSemicolon : mV yX8_readSemicolon cX8_readSemicolon 1 none 0 := ⟨tw938, tw937, (gw_s 28 rfl), tw9, by decide +kernel, by decide +kernel, by decide +kernel⟩
