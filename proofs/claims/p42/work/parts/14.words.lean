set_option maxRecDepth 100000 in
theorem tw0 : (.initialized "FamilyChartLaw" : Cond) ∈ gw := gw_t 0 (by decide +kernel) rfl
set_option maxRecDepth 100000 in
theorem tw1 : (.initialized "FamilyChart" : Cond) ∈ gw := gw_t 1 (by decide +kernel) rfl
set_option maxRecDepth 100000 in
theorem tw2 : (.initialized "FamilyChart$Input" : Cond) ∈ gw := gw_t 2 (by decide +kernel) rfl
set_option maxRecDepth 100000 in
theorem tw3 : (.initialized "FamilyChart$Family" : Cond) ∈ gw := gw_t 3 (by decide +kernel) rfl
set_option maxRecDepth 100000 in
theorem tw4 : (.initialized "FamilyChart$Relations" : Cond) ∈ gw := gw_t 4 (by decide +kernel) rfl
set_option maxRecDepth 100000 in
theorem tw5 : (.initialized "FamilyChart$Rows" : Cond) ∈ gw := gw_t 5 (by decide +kernel) rfl
set_option maxRecDepth 100000 in
theorem tw6 : (.initialized "FamilyChart$Columns" : Cond) ∈ gw := gw_t 6 (by decide +kernel) rfl
set_option maxRecDepth 100000 in
theorem tw7 : (.initialized "FamilyChart$Printer" : Cond) ∈ gw := gw_t 7 (by decide +kernel) rfl
set_option maxRecDepth 100000 in
theorem tw8 : (.initialized "FamilyChart$History" : Cond) ∈ gw := gw_t 8 (by decide +kernel) rfl
set_option maxRecDepth 100000 in
theorem tw9 : (.initialized "FamilyChart$TextReader" : Cond) ∈ gw := gw_t 9 (by decide +kernel) rfl
set_option maxRecDepth 100000 in
theorem tw10 : (.initialized "FamilyChart$QueryReader" : Cond) ∈ gw := gw_t 10 (by decide +kernel) rfl
set_option maxRecDepth 100000 in
theorem tw11 : (.initialized "java/lang/Math" : Cond) ∈ gw := gw_t 11 (by decide +kernel) rfl
set_option maxRecDepth 100000 in
theorem tw12 : (.initialized "FamilyChartLaw$Own" : Cond) ∈ gw := gw_t 12 (by decide +kernel) rfl
set_option maxRecDepth 100000 in
theorem tw13 : (.initialized "java/lang/String" : Cond) ∈ gw := gw_t 13 (by decide +kernel) rfl
set_option maxRecDepth 100000 in
theorem tw14 : (.initialized "java/lang/StringLatin1" : Cond) ∈ gw := gw_t 14 (by decide +kernel) rfl
set_option maxRecDepth 100000 in
theorem tw15 : (.initialized "jdk/internal/util/Preconditions" : Cond) ∈ gw := gw_t 15 (by decide +kernel) rfl
set_option maxRecDepth 100000 in
theorem tw16 : (.initialized "java/lang/StringUTF16" : Cond) ∈ gw := gw_t 16 (by decide +kernel) rfl
set_option maxRecDepth 100000 in
theorem tw17 : (.initialized "java/lang/Throwable" : Cond) ∈ gw := gw_t 17 (by decide +kernel) rfl
set_option maxRecDepth 100000 in
theorem tw18 : (.initialized "java/lang/Exception" : Cond) ∈ gw := gw_t 18 (by decide +kernel) rfl
set_option maxRecDepth 100000 in
theorem tw19 : (.initialized "java/lang/RuntimeException" : Cond) ∈ gw := gw_t 19 (by decide +kernel) rfl
set_option maxRecDepth 100000 in
theorem tw20 : (.initialized "java/lang/IllegalArgumentException" : Cond) ∈ gw := gw_t 20 (by decide +kernel) rfl
set_option maxRecDepth 100000 in
theorem tw21 : (.initialized "java/util/NoSuchElementException" : Cond) ∈ gw := gw_t 21 (by decide +kernel) rfl
set_option maxRecDepth 100000 in
theorem tw22 : (.initialized "java/lang/Integer" : Cond) ∈ gw := gw_t 22 (by decide +kernel) rfl
set_option maxRecDepth 100000 in
theorem tw23 : (.classLink "FamilyChartLaw" 9 "FamilyChart" : Cond) ∈ gw := gw_t 23 (by decide +kernel) rfl
set_option maxRecDepth 100000 in
theorem tw24 : (.instantiable "FamilyChart" 9 : Cond) ∈ gw := gw_t 24 (by decide +kernel) rfl
set_option maxRecDepth 100000 in
theorem tw25 : (.methodLink "FamilyChartLaw" 243 ⟨"FamilyChart", "<init>", "()V"⟩ : Cond) ∈ gw := gw_t 25 (by decide +kernel) rfl
set_option maxRecDepth 100000 in
theorem tw26 : (.instanceMethod ⟨"FamilyChart", "<init>", "()V"⟩ : Cond) ∈ gw := gw_t 26 (by decide +kernel) rfl
set_option maxRecDepth 100000 in
theorem tw27 : (.code ⟨"FamilyChart", "<init>", "()V"⟩ prog_1_method_1_code 1 (Option.none : Option ClassFile.FieldType) : Cond) ∈ gw := gw_t 27 (by decide +kernel) rfl
set_option maxRecDepth 100000 in
theorem tw28 : (.methodLink "FamilyChart" 3 ⟨"java/lang/Object", "<init>", "()V"⟩ : Cond) ∈ gw := gw_t 28 (by decide +kernel) rfl
set_option maxRecDepth 100000 in
theorem tw29 : (.instanceMethod ⟨"java/lang/Object", "<init>", "()V"⟩ : Cond) ∈ gw := gw_t 29 (by decide +kernel) rfl
set_option maxRecDepth 100000 in
theorem tw30 : (.code ⟨"java/lang/Object", "<init>", "()V"⟩ object_method_1_code 1 (Option.none : Option ClassFile.FieldType) : Cond) ∈ gw := gw_t 30 (by decide +kernel) rfl
set_option maxRecDepth 100000 in
theorem tw31 : (.classLink "FamilyChart" 9 "FamilyChart$Input" : Cond) ∈ gw := gw_t 31 (by decide +kernel) rfl
set_option maxRecDepth 100000 in
theorem tw32 : (.instantiable "FamilyChart$Input" 9 : Cond) ∈ gw := gw_t 32 (by decide +kernel) rfl
set_option maxRecDepth 100000 in
theorem tw34 : (.instanceMethod ⟨"FamilyChart$Input", "<init>", "()V"⟩ : Cond) ∈ gw := gw_t 34 (by decide +kernel) rfl
set_option maxRecDepth 100000 in
theorem tw35 : (.code ⟨"FamilyChart$Input", "<init>", "()V"⟩ prog_5_method_1_code 1 (Option.none : Option ClassFile.FieldType) : Cond) ∈ gw := gw_t 35 (by decide +kernel) rfl
set_option maxRecDepth 100000 in
theorem tw36 : (.methodLink "FamilyChart$Input" 3 ⟨"java/lang/Object", "<init>", "()V"⟩ : Cond) ∈ gw := gw_t 36 (by decide +kernel) rfl
set_option maxRecDepth 100000 in
theorem tw37 : (.fieldLink "FamilyChart$Input" 9 "FamilyChart$Input" "bytes" "[I" : Cond) ∈ gw := gw_t 37 (by decide +kernel) rfl
set_option maxRecDepth 100000 in
theorem tw38 : (.fieldLink "FamilyChart$Input" 19 "FamilyChart$Input" "filled" "I" : Cond) ∈ gw := gw_t 38 (by decide +kernel) rfl
set_option maxRecDepth 100000 in
theorem tw39 : (.fieldLink "FamilyChart" 90 "FamilyChart$Input" "filled" "I" : Cond) ∈ gw := gw_t 39 (by decide +kernel) rfl
set_option maxRecDepth 100000 in
theorem tw40 : (.fieldLink "FamilyChart$Input" 26 "FamilyChart$Input" "length" "I" : Cond) ∈ gw := gw_t 40 (by decide +kernel) rfl
set_option maxRecDepth 100000 in
theorem tw41 : (.fieldLink "FamilyChart$TextReader" 35 "FamilyChart$Input" "kind" "I" : Cond) ∈ gw := gw_t 41 (by decide +kernel) rfl
set_option maxRecDepth 100000 in
theorem tw42 : (.fieldLink "FamilyChart$Input" 56 "FamilyChart$Input" "kind" "I" : Cond) ∈ gw := gw_t 42 (by decide +kernel) rfl
set_option maxRecDepth 100000 in
theorem tw43 : (.fieldLink "FamilyChart$Input" 42 "FamilyChart$Input" "start" "I" : Cond) ∈ gw := gw_t 43 (by decide +kernel) rfl
set_option maxRecDepth 100000 in
theorem tw44 : (.fieldLink "FamilyChart$Input" 29 "FamilyChart$Input" "stop" "I" : Cond) ∈ gw := gw_t 44 (by decide +kernel) rfl
set_option maxRecDepth 100000 in
theorem tw45 : (.fieldLink "FamilyChart$Input" 53 "FamilyChart$Input" "value" "I" : Cond) ∈ gw := gw_t 45 (by decide +kernel) rfl
set_option maxRecDepth 100000 in
theorem tw46 : (.fieldLink "FamilyChart$TextReader" 148 "FamilyChart$Input" "value" "I" : Cond) ∈ gw := gw_t 46 (by decide +kernel) rfl
set_option maxRecDepth 100000 in
theorem tw47 : (.fieldLink "FamilyChart$TextReader" 59 "FamilyChart$Input" "errorCode" "I" : Cond) ∈ gw := gw_t 47 (by decide +kernel) rfl
set_option maxRecDepth 100000 in
theorem tw48 : (.fieldLink "FamilyChart$Input" 32 "FamilyChart$Input" "errorCode" "I" : Cond) ∈ gw := gw_t 48 (by decide +kernel) rfl
set_option maxRecDepth 100000 in
theorem tw49 : (.fieldLink "FamilyChart$Input" 15 "FamilyChart$Input" "errorStart" "I" : Cond) ∈ gw := gw_t 49 (by decide +kernel) rfl
set_option maxRecDepth 100000 in
theorem tw69 : (.arrayClass ClassFile.FieldType.int : Cond) ∈ gw := gw_t 69 (by decide +kernel) rfl
set_option maxRecDepth 100000 in
theorem tw70 : (.classLink "FamilyChart" 16 "FamilyChart$Family" : Cond) ∈ gw := gw_t 70 (by decide +kernel) rfl
set_option maxRecDepth 100000 in
theorem tw71 : (.instantiable "FamilyChart$Family" 14 : Cond) ∈ gw := gw_t 71 (by decide +kernel) rfl
set_option maxRecDepth 100000 in
theorem tw73 : (.instanceMethod ⟨"FamilyChart$Family", "<init>", "()V"⟩ : Cond) ∈ gw := gw_t 73 (by decide +kernel) rfl
set_option maxRecDepth 100000 in
theorem tw74 : (.code ⟨"FamilyChart$Family", "<init>", "()V"⟩ prog_3_method_1_code 1 (Option.none : Option ClassFile.FieldType) : Cond) ∈ gw := gw_t 74 (by decide +kernel) rfl
set_option maxRecDepth 100000 in
theorem tw75 : (.methodLink "FamilyChart$Family" 3 ⟨"java/lang/Object", "<init>", "()V"⟩ : Cond) ∈ gw := gw_t 75 (by decide +kernel) rfl
set_option maxRecDepth 100000 in
theorem tw76 : (.fieldLink "FamilyChart$Family" 9 "FamilyChart$Family" "letters" "[I" : Cond) ∈ gw := gw_t 76 (by decide +kernel) rfl
set_option maxRecDepth 100000 in
theorem tw77 : (.fieldLink "FamilyChart$Printer" 93 "FamilyChart$Family" "letters" "[I" : Cond) ∈ gw := gw_t 77 (by decide +kernel) rfl
set_option maxRecDepth 100000 in
theorem tw78 : (.fieldLink "FamilyChart$TextReader" 134 "FamilyChart$Family" "letters" "[I" : Cond) ∈ gw := gw_t 78 (by decide +kernel) rfl
set_option maxRecDepth 100000 in
theorem tw79 : (.fieldLink "FamilyChart$Family" 15 "FamilyChart$Family" "letterCount" "[I" : Cond) ∈ gw := gw_t 79 (by decide +kernel) rfl
set_option maxRecDepth 100000 in
theorem tw80 : (.fieldLink "FamilyChart$Columns" 71 "FamilyChart$Family" "letterCount" "[I" : Cond) ∈ gw := gw_t 80 (by decide +kernel) rfl
set_option maxRecDepth 100000 in
theorem tw81 : (.fieldLink "FamilyChart$Printer" 75 "FamilyChart$Family" "letterCount" "[I" : Cond) ∈ gw := gw_t 81 (by decide +kernel) rfl
set_option maxRecDepth 100000 in
theorem tw82 : (.fieldLink "FamilyChart" 159 "FamilyChart$Family" "letterCount" "[I" : Cond) ∈ gw := gw_t 82 (by decide +kernel) rfl
set_option maxRecDepth 100000 in
theorem tw83 : (.fieldLink "FamilyChart$TextReader" 137 "FamilyChart$Family" "letterCount" "[I" : Cond) ∈ gw := gw_t 83 (by decide +kernel) rfl
set_option maxRecDepth 100000 in
theorem tw84 : (.fieldLink "FamilyChart$Family" 18 "FamilyChart$Family" "personYear" "[I" : Cond) ∈ gw := gw_t 84 (by decide +kernel) rfl
set_option maxRecDepth 100000 in
theorem tw85 : (.fieldLink "FamilyChart$TextReader" 86 "FamilyChart$Family" "personYear" "[I" : Cond) ∈ gw := gw_t 85 (by decide +kernel) rfl
set_option maxRecDepth 100000 in
theorem tw86 : (.fieldLink "FamilyChart" 142 "FamilyChart$Family" "personYear" "[I" : Cond) ∈ gw := gw_t 86 (by decide +kernel) rfl
set_option maxRecDepth 100000 in
theorem tw87 : (.fieldLink "FamilyChart$Family" 21 "FamilyChart$Family" "parentUnion" "[I" : Cond) ∈ gw := gw_t 87 (by decide +kernel) rfl
set_option maxRecDepth 100000 in
theorem tw88 : (.fieldLink "FamilyChart$Columns" 61 "FamilyChart$Family" "parentUnion" "[I" : Cond) ∈ gw := gw_t 88 (by decide +kernel) rfl
set_option maxRecDepth 100000 in
theorem tw89 : (.fieldLink "FamilyChart" 153 "FamilyChart$Family" "parentUnion" "[I" : Cond) ∈ gw := gw_t 89 (by decide +kernel) rfl
set_option maxRecDepth 100000 in
theorem tw90 : (.fieldLink "FamilyChart$TextReader" 131 "FamilyChart$Family" "parentUnion" "[I" : Cond) ∈ gw := gw_t 90 (by decide +kernel) rfl
set_option maxRecDepth 100000 in
theorem tw91 : (.fieldLink "FamilyChart$History" 69 "FamilyChart$Family" "parentUnion" "[I" : Cond) ∈ gw := gw_t 91 (by decide +kernel) rfl
set_option maxRecDepth 100000 in
theorem tw92 : (.fieldLink "FamilyChart$Printer" 124 "FamilyChart$Family" "parentUnion" "[I" : Cond) ∈ gw := gw_t 92 (by decide +kernel) rfl
set_option maxRecDepth 100000 in
theorem tw93 : (.fieldLink "FamilyChart$Rows" 124 "FamilyChart$Family" "parentUnion" "[I" : Cond) ∈ gw := gw_t 93 (by decide +kernel) rfl
set_option maxRecDepth 100000 in
theorem tw94 : (.fieldLink "FamilyChart$Family" 24 "FamilyChart$Family" "firstPartner" "[I" : Cond) ∈ gw := gw_t 94 (by decide +kernel) rfl
set_option maxRecDepth 100000 in
theorem tw95 : (.fieldLink "FamilyChart$Rows" 64 "FamilyChart$Family" "firstPartner" "[I" : Cond) ∈ gw := gw_t 95 (by decide +kernel) rfl
set_option maxRecDepth 100000 in
theorem tw96 : (.fieldLink "FamilyChart$History" 56 "FamilyChart$Family" "firstPartner" "[I" : Cond) ∈ gw := gw_t 96 (by decide +kernel) rfl
set_option maxRecDepth 100000 in
theorem tw97 : (.fieldLink "FamilyChart" 170 "FamilyChart$Family" "firstPartner" "[I" : Cond) ∈ gw := gw_t 97 (by decide +kernel) rfl
set_option maxRecDepth 100000 in
theorem tw98 : (.fieldLink "FamilyChart$Family" 27 "FamilyChart$Family" "secondPartner" "[I" : Cond) ∈ gw := gw_t 98 (by decide +kernel) rfl
set_option maxRecDepth 100000 in
theorem tw99 : (.fieldLink "FamilyChart$Rows" 67 "FamilyChart$Family" "secondPartner" "[I" : Cond) ∈ gw := gw_t 99 (by decide +kernel) rfl
set_option maxRecDepth 100000 in
theorem tw100 : (.fieldLink "FamilyChart$History" 63 "FamilyChart$Family" "secondPartner" "[I" : Cond) ∈ gw := gw_t 100 (by decide +kernel) rfl
set_option maxRecDepth 100000 in
theorem tw101 : (.fieldLink "FamilyChart" 173 "FamilyChart$Family" "secondPartner" "[I" : Cond) ∈ gw := gw_t 101 (by decide +kernel) rfl
set_option maxRecDepth 100000 in
theorem tw102 : (.fieldLink "FamilyChart$Family" 30 "FamilyChart$Family" "unionYear" "[I" : Cond) ∈ gw := gw_t 102 (by decide +kernel) rfl
set_option maxRecDepth 100000 in
theorem tw103 : (.fieldLink "FamilyChart$History" 66 "FamilyChart$Family" "unionYear" "[I" : Cond) ∈ gw := gw_t 103 (by decide +kernel) rfl
set_option maxRecDepth 100000 in
theorem tw104 : (.fieldLink "FamilyChart" 176 "FamilyChart$Family" "unionYear" "[I" : Cond) ∈ gw := gw_t 104 (by decide +kernel) rfl
set_option maxRecDepth 100000 in
theorem tw105 : (.fieldLink "FamilyChart$Family" 33 "FamilyChart$Family" "generation" "[I" : Cond) ∈ gw := gw_t 105 (by decide +kernel) rfl
set_option maxRecDepth 100000 in
theorem tw106 : (.fieldLink "FamilyChart$Rows" 73 "FamilyChart$Family" "generation" "[I" : Cond) ∈ gw := gw_t 106 (by decide +kernel) rfl
set_option maxRecDepth 100000 in
theorem tw107 : (.fieldLink "FamilyChart$Relations" 35 "FamilyChart$Family" "generation" "[I" : Cond) ∈ gw := gw_t 107 (by decide +kernel) rfl
set_option maxRecDepth 100000 in
theorem tw108 : (.fieldLink "FamilyChart" 150 "FamilyChart$Family" "generation" "[I" : Cond) ∈ gw := gw_t 108 (by decide +kernel) rfl
set_option maxRecDepth 100000 in
theorem tw109 : (.fieldLink "FamilyChart$Printer" 117 "FamilyChart$Family" "generation" "[I" : Cond) ∈ gw := gw_t 109 (by decide +kernel) rfl
set_option maxRecDepth 100000 in
theorem tw110 : (.fieldLink "FamilyChart$Family" 36 "FamilyChart$Family" "ancestorMask" "[I" : Cond) ∈ gw := gw_t 110 (by decide +kernel) rfl
set_option maxRecDepth 100000 in
theorem tw111 : (.fieldLink "FamilyChart" 201 "FamilyChart$Family" "ancestorMask" "[I" : Cond) ∈ gw := gw_t 111 (by decide +kernel) rfl
set_option maxRecDepth 100000 in
theorem tw112 : (.fieldLink "FamilyChart$Family" 39 "FamilyChart$Family" "level" "[I" : Cond) ∈ gw := gw_t 112 (by decide +kernel) rfl
set_option maxRecDepth 100000 in
theorem tw113 : (.fieldLink "FamilyChart$Rows" 76 "FamilyChart$Family" "level" "[I" : Cond) ∈ gw := gw_t 113 (by decide +kernel) rfl
set_option maxRecDepth 100000 in
theorem tw114 : (.fieldLink "FamilyChart$Printer" 99 "FamilyChart$Family" "level" "[I" : Cond) ∈ gw := gw_t 114 (by decide +kernel) rfl
set_option maxRecDepth 100000 in
theorem tw115 : (.fieldLink "FamilyChart" 179 "FamilyChart$Family" "level" "[I" : Cond) ∈ gw := gw_t 115 (by decide +kernel) rfl
set_option maxRecDepth 100000 in
theorem tw116 : (.fieldLink "FamilyChart$Family" 42 "FamilyChart$Family" "referenced" "[I" : Cond) ∈ gw := gw_t 116 (by decide +kernel) rfl
set_option maxRecDepth 100000 in
theorem tw117 : (.fieldLink "FamilyChart$Rows" 57 "FamilyChart$Family" "referenced" "[I" : Cond) ∈ gw := gw_t 117 (by decide +kernel) rfl
set_option maxRecDepth 100000 in
theorem tw118 : (.fieldLink "FamilyChart$Family" 45 "FamilyChart$Family" "personCount" "I" : Cond) ∈ gw := gw_t 118 (by decide +kernel) rfl
set_option maxRecDepth 100000 in
theorem tw119 : (.fieldLink "FamilyChart$TextReader" 62 "FamilyChart$Family" "personCount" "I" : Cond) ∈ gw := gw_t 119 (by decide +kernel) rfl
set_option maxRecDepth 100000 in
theorem tw120 : (.fieldLink "FamilyChart" 117 "FamilyChart$Family" "personCount" "I" : Cond) ∈ gw := gw_t 120 (by decide +kernel) rfl
set_option maxRecDepth 100000 in
theorem tw121 : (.fieldLink "FamilyChart$Rows" 70 "FamilyChart$Family" "personCount" "I" : Cond) ∈ gw := gw_t 121 (by decide +kernel) rfl
set_option maxRecDepth 100000 in
theorem tw122 : (.fieldLink "FamilyChart$Relations" 32 "FamilyChart$Family" "personCount" "I" : Cond) ∈ gw := gw_t 122 (by decide +kernel) rfl
set_option maxRecDepth 100000 in
theorem tw123 : (.fieldLink "FamilyChart$Printer" 111 "FamilyChart$Family" "personCount" "I" : Cond) ∈ gw := gw_t 123 (by decide +kernel) rfl
set_option maxRecDepth 100000 in
theorem tw124 : (.fieldLink "FamilyChart$Family" 49 "FamilyChart$Family" "unionCount" "I" : Cond) ∈ gw := gw_t 124 (by decide +kernel) rfl
set_option maxRecDepth 100000 in
theorem tw125 : (.fieldLink "FamilyChart$Rows" 54 "FamilyChart$Family" "unionCount" "I" : Cond) ∈ gw := gw_t 125 (by decide +kernel) rfl
set_option maxRecDepth 100000 in
theorem tw126 : (.fieldLink "FamilyChart$TextReader" 103 "FamilyChart$Family" "unionCount" "I" : Cond) ∈ gw := gw_t 126 (by decide +kernel) rfl
set_option maxRecDepth 100000 in
theorem tw127 : (.fieldLink "FamilyChart" 123 "FamilyChart$Family" "unionCount" "I" : Cond) ∈ gw := gw_t 127 (by decide +kernel) rfl
set_option maxRecDepth 100000 in
theorem tw128 : (.fieldLink "FamilyChart$Printer" 96 "FamilyChart$Family" "unionCount" "I" : Cond) ∈ gw := gw_t 128 (by decide +kernel) rfl
set_option maxRecDepth 100000 in
theorem tw129 : (.fieldLink "FamilyChart$History" 47 "FamilyChart$Family" "unionCount" "I" : Cond) ∈ gw := gw_t 129 (by decide +kernel) rfl
set_option maxRecDepth 100000 in
theorem tw130 : (.fieldLink "FamilyChart$Columns" 26 "FamilyChart$Family" "rowCount" "I" : Cond) ∈ gw := gw_t 130 (by decide +kernel) rfl
set_option maxRecDepth 100000 in
theorem tw131 : (.fieldLink "FamilyChart$Rows" 37 "FamilyChart$Family" "rowCount" "I" : Cond) ∈ gw := gw_t 131 (by decide +kernel) rfl
set_option maxRecDepth 100000 in
theorem tw132 : (.fieldLink "FamilyChart$Relations" 26 "FamilyChart$Family" "rowCount" "I" : Cond) ∈ gw := gw_t 132 (by decide +kernel) rfl
set_option maxRecDepth 100000 in
theorem tw133 : (.fieldLink "FamilyChart" 126 "FamilyChart$Family" "rowCount" "I" : Cond) ∈ gw := gw_t 133 (by decide +kernel) rfl
set_option maxRecDepth 100000 in
theorem tw134 : (.fieldLink "FamilyChart$Family" 75 "FamilyChart$Family" "rowCount" "I" : Cond) ∈ gw := gw_t 134 (by decide +kernel) rfl
set_option maxRecDepth 100000 in
theorem tw135 : (.fieldLink "FamilyChart$Printer" 127 "FamilyChart$Family" "rowCount" "I" : Cond) ∈ gw := gw_t 135 (by decide +kernel) rfl
set_option maxRecDepth 100000 in
theorem tw165 : (.classLink "FamilyChart" 23 "FamilyChart$Relations" : Cond) ∈ gw := gw_t 165 (by decide +kernel) rfl
set_option maxRecDepth 100000 in
theorem tw166 : (.instantiable "FamilyChart$Relations" 4 : Cond) ∈ gw := gw_t 166 (by decide +kernel) rfl
set_option maxRecDepth 100000 in
theorem tw167 : (.methodLink "FamilyChart" 25 ⟨"FamilyChart$Relations", "<init>", "(LFamilyChart$Family;)V"⟩ : Cond) ∈ gw := gw_t 167 (by decide +kernel) rfl
set_option maxRecDepth 100000 in
theorem tw168 : (.instanceMethod ⟨"FamilyChart$Relations", "<init>", "(LFamilyChart$Family;)V"⟩ : Cond) ∈ gw := gw_t 168 (by decide +kernel) rfl
set_option maxRecDepth 100000 in
theorem tw169 : (.code ⟨"FamilyChart$Relations", "<init>", "(LFamilyChart$Family;)V"⟩ prog_8_method_1_code 2 (Option.none : Option ClassFile.FieldType) : Cond) ∈ gw := gw_t 169 (by decide +kernel) rfl
set_option maxRecDepth 100000 in
theorem tw170 : (.methodLink "FamilyChart$Relations" 3 ⟨"java/lang/Object", "<init>", "()V"⟩ : Cond) ∈ gw := gw_t 170 (by decide +kernel) rfl
set_option maxRecDepth 100000 in
theorem tw171 : (.fieldLink "FamilyChart$Relations" 22 "FamilyChart$Relations" "family" "LFamilyChart$Family;" : Cond) ∈ gw := gw_t 171 (by decide +kernel) rfl
set_option maxRecDepth 100000 in
theorem tw172 : (.fieldLink "FamilyChart$Relations" 9 "FamilyChart$Relations" "kinships" "[J" : Cond) ∈ gw := gw_t 172 (by decide +kernel) rfl
set_option maxRecDepth 100000 in
theorem tw173 : (.fieldLink "FamilyChart$Relations" 15 "FamilyChart$Relations" "ways" "[I" : Cond) ∈ gw := gw_t 173 (by decide +kernel) rfl
set_option maxRecDepth 100000 in
theorem tw174 : (.fieldLink "FamilyChart$Relations" 19 "FamilyChart$Relations" "nextWays" "[I" : Cond) ∈ gw := gw_t 174 (by decide +kernel) rfl
set_option maxRecDepth 100000 in
theorem tw184 : (.arrayClass ClassFile.FieldType.long : Cond) ∈ gw := gw_t 184 (by decide +kernel) rfl
set_option maxRecDepth 100000 in
theorem tw185 : (.classLink "FamilyChart" 32 "FamilyChart$Rows" : Cond) ∈ gw := gw_t 185 (by decide +kernel) rfl
set_option maxRecDepth 100000 in
theorem tw186 : (.instantiable "FamilyChart$Rows" 7 : Cond) ∈ gw := gw_t 186 (by decide +kernel) rfl
set_option maxRecDepth 100000 in
theorem tw187 : (.methodLink "FamilyChart" 34 ⟨"FamilyChart$Rows", "<init>", "(LFamilyChart$Family;)V"⟩ : Cond) ∈ gw := gw_t 187 (by decide +kernel) rfl
set_option maxRecDepth 100000 in
theorem tw188 : (.instanceMethod ⟨"FamilyChart$Rows", "<init>", "(LFamilyChart$Family;)V"⟩ : Cond) ∈ gw := gw_t 188 (by decide +kernel) rfl
set_option maxRecDepth 100000 in
theorem tw189 : (.code ⟨"FamilyChart$Rows", "<init>", "(LFamilyChart$Family;)V"⟩ prog_9_method_1_code 2 (Option.none : Option ClassFile.FieldType) : Cond) ∈ gw := gw_t 189 (by decide +kernel) rfl
set_option maxRecDepth 100000 in
theorem tw190 : (.methodLink "FamilyChart$Rows" 3 ⟨"java/lang/Object", "<init>", "()V"⟩ : Cond) ∈ gw := gw_t 190 (by decide +kernel) rfl
set_option maxRecDepth 100000 in
theorem tw191 : (.fieldLink "FamilyChart$Rows" 30 "FamilyChart$Rows" "family" "LFamilyChart$Family;" : Cond) ∈ gw := gw_t 191 (by decide +kernel) rfl
set_option maxRecDepth 100000 in
theorem tw192 : (.fieldLink "FamilyChart$Rows" 9 "FamilyChart$Rows" "order" "[I" : Cond) ∈ gw := gw_t 192 (by decide +kernel) rfl
set_option maxRecDepth 100000 in
theorem tw193 : (.fieldLink "FamilyChart$Rows" 15 "FamilyChart$Rows" "rowStart" "[I" : Cond) ∈ gw := gw_t 193 (by decide +kernel) rfl
set_option maxRecDepth 100000 in
theorem tw194 : (.fieldLink "FamilyChart$Rows" 18 "FamilyChart$Rows" "placeOf" "[I" : Cond) ∈ gw := gw_t 194 (by decide +kernel) rfl
set_option maxRecDepth 100000 in
theorem tw195 : (.fieldLink "FamilyChart" 256 "FamilyChart$Rows" "placeOf" "[I" : Cond) ∈ gw := gw_t 195 (by decide +kernel) rfl
set_option maxRecDepth 100000 in
theorem tw196 : (.fieldLink "FamilyChart$Rows" 21 "FamilyChart$Rows" "firstBox" "[I" : Cond) ∈ gw := gw_t 196 (by decide +kernel) rfl
set_option maxRecDepth 100000 in
theorem tw197 : (.fieldLink "FamilyChart$Columns" 77 "FamilyChart$Rows" "firstBox" "[I" : Cond) ∈ gw := gw_t 197 (by decide +kernel) rfl
set_option maxRecDepth 100000 in
theorem tw198 : (.fieldLink "FamilyChart$Rows" 24 "FamilyChart$Rows" "secondBox" "[I" : Cond) ∈ gw := gw_t 198 (by decide +kernel) rfl
set_option maxRecDepth 100000 in
theorem tw199 : (.fieldLink "FamilyChart$Columns" 80 "FamilyChart$Rows" "secondBox" "[I" : Cond) ∈ gw := gw_t 199 (by decide +kernel) rfl
set_option maxRecDepth 100000 in
theorem tw200 : (.fieldLink "FamilyChart$Rows" 27 "FamilyChart$Rows" "keys" "[I" : Cond) ∈ gw := gw_t 200 (by decide +kernel) rfl
set_option maxRecDepth 100000 in
theorem tw216 : (.classLink "FamilyChart" 39 "FamilyChart$Columns" : Cond) ∈ gw := gw_t 216 (by decide +kernel) rfl
set_option maxRecDepth 100000 in
theorem tw217 : (.instantiable "FamilyChart$Columns" 4 : Cond) ∈ gw := gw_t 217 (by decide +kernel) rfl
set_option maxRecDepth 100000 in
theorem tw218 : (.methodLink "FamilyChart" 41 ⟨"FamilyChart$Columns", "<init>", "(LFamilyChart$Family;LFamilyChart$Rows;)V"⟩ : Cond) ∈ gw := gw_t 218 (by decide +kernel) rfl
set_option maxRecDepth 100000 in
theorem tw219 : (.instanceMethod ⟨"FamilyChart$Columns", "<init>", "(LFamilyChart$Family;LFamilyChart$Rows;)V"⟩ : Cond) ∈ gw := gw_t 219 (by decide +kernel) rfl
set_option maxRecDepth 100000 in
theorem tw220 : (.code ⟨"FamilyChart$Columns", "<init>", "(LFamilyChart$Family;LFamilyChart$Rows;)V"⟩ prog_2_method_1_code 3 (Option.none : Option ClassFile.FieldType) : Cond) ∈ gw := gw_t 220 (by decide +kernel) rfl
set_option maxRecDepth 100000 in
theorem tw221 : (.methodLink "FamilyChart$Columns" 3 ⟨"java/lang/Object", "<init>", "()V"⟩ : Cond) ∈ gw := gw_t 221 (by decide +kernel) rfl
set_option maxRecDepth 100000 in
theorem tw222 : (.fieldLink "FamilyChart$Columns" 18 "FamilyChart$Columns" "family" "LFamilyChart$Family;" : Cond) ∈ gw := gw_t 222 (by decide +kernel) rfl
set_option maxRecDepth 100000 in
theorem tw223 : (.fieldLink "FamilyChart$Columns" 22 "FamilyChart$Columns" "rows" "LFamilyChart$Rows;" : Cond) ∈ gw := gw_t 223 (by decide +kernel) rfl
set_option maxRecDepth 100000 in
theorem tw224 : (.fieldLink "FamilyChart$Columns" 9 "FamilyChart$Columns" "firstColumn" "[I" : Cond) ∈ gw := gw_t 224 (by decide +kernel) rfl
set_option maxRecDepth 100000 in
theorem tw225 : (.fieldLink "FamilyChart$Printer" 84 "FamilyChart$Columns" "firstColumn" "[I" : Cond) ∈ gw := gw_t 225 (by decide +kernel) rfl
set_option maxRecDepth 100000 in
theorem tw226 : (.fieldLink "FamilyChart" 248 "FamilyChart$Columns" "firstColumn" "[I" : Cond) ∈ gw := gw_t 226 (by decide +kernel) rfl
set_option maxRecDepth 100000 in
theorem tw227 : (.fieldLink "FamilyChart$Columns" 15 "FamilyChart$Columns" "middleColumn" "[I" : Cond) ∈ gw := gw_t 227 (by decide +kernel) rfl
set_option maxRecDepth 100000 in
theorem tw228 : (.fieldLink "FamilyChart$Printer" 114 "FamilyChart$Columns" "middleColumn" "[I" : Cond) ∈ gw := gw_t 228 (by decide +kernel) rfl
set_option maxRecDepth 100000 in
theorem tw238 : (.classLink "FamilyChart" 48 "FamilyChart$Printer" : Cond) ∈ gw := gw_t 238 (by decide +kernel) rfl
set_option maxRecDepth 100000 in
theorem tw239 : (.instantiable "FamilyChart$Printer" 7 : Cond) ∈ gw := gw_t 239 (by decide +kernel) rfl
set_option maxRecDepth 100000 in
theorem tw240 : (.methodLink "FamilyChart" 50 ⟨"FamilyChart$Printer", "<init>", "(LFamilyChart$Family;LFamilyChart$Rows;LFamilyChart$Columns;)V"⟩ : Cond) ∈ gw := gw_t 240 (by decide +kernel) rfl
set_option maxRecDepth 100000 in
theorem tw241 : (.instanceMethod ⟨"FamilyChart$Printer", "<init>", "(LFamilyChart$Family;LFamilyChart$Rows;LFamilyChart$Columns;)V"⟩ : Cond) ∈ gw := gw_t 241 (by decide +kernel) rfl
set_option maxRecDepth 100000 in
theorem tw242 : (.code ⟨"FamilyChart$Printer", "<init>", "(LFamilyChart$Family;LFamilyChart$Rows;LFamilyChart$Columns;)V"⟩ prog_6_method_1_code 4 (Option.none : Option ClassFile.FieldType) : Cond) ∈ gw := gw_t 242 (by decide +kernel) rfl
set_option maxRecDepth 100000 in
theorem tw243 : (.methodLink "FamilyChart$Printer" 3 ⟨"java/lang/Object", "<init>", "()V"⟩ : Cond) ∈ gw := gw_t 243 (by decide +kernel) rfl
set_option maxRecDepth 100000 in
theorem tw244 : (.fieldLink "FamilyChart$Printer" 22 "FamilyChart$Printer" "family" "LFamilyChart$Family;" : Cond) ∈ gw := gw_t 244 (by decide +kernel) rfl
set_option maxRecDepth 100000 in
theorem tw245 : (.fieldLink "FamilyChart$Printer" 26 "FamilyChart$Printer" "rows" "LFamilyChart$Rows;" : Cond) ∈ gw := gw_t 245 (by decide +kernel) rfl
set_option maxRecDepth 100000 in
theorem tw246 : (.fieldLink "FamilyChart$Printer" 30 "FamilyChart$Printer" "columns" "LFamilyChart$Columns;" : Cond) ∈ gw := gw_t 246 (by decide +kernel) rfl
set_option maxRecDepth 100000 in
theorem tw247 : (.fieldLink "FamilyChart$Printer" 9 "FamilyChart$Printer" "line" "[I" : Cond) ∈ gw := gw_t 247 (by decide +kernel) rfl
set_option maxRecDepth 100000 in
theorem tw248 : (.fieldLink "FamilyChart$Printer" 15 "FamilyChart$Printer" "lineLength" "I" : Cond) ∈ gw := gw_t 248 (by decide +kernel) rfl
set_option maxRecDepth 100000 in
theorem tw249 : (.fieldLink "FamilyChart$Printer" 19 "FamilyChart$Printer" "text" "[I" : Cond) ∈ gw := gw_t 249 (by decide +kernel) rfl
set_option maxRecDepth 100000 in
theorem tw250 : (.fieldLink "FamilyChart" 290 "FamilyChart$Printer" "text" "[I" : Cond) ∈ gw := gw_t 250 (by decide +kernel) rfl
set_option maxRecDepth 100000 in
theorem tw251 : (.fieldLink "FamilyChart$Printer" 133 "FamilyChart$Printer" "textLength" "I" : Cond) ∈ gw := gw_t 251 (by decide +kernel) rfl
set_option maxRecDepth 100000 in
theorem tw252 : (.fieldLink "FamilyChart" 287 "FamilyChart$Printer" "textLength" "I" : Cond) ∈ gw := gw_t 252 (by decide +kernel) rfl
set_option maxRecDepth 100000 in
theorem tw268 : (.classLink "FamilyChart" 57 "FamilyChart$History" : Cond) ∈ gw := gw_t 268 (by decide +kernel) rfl
set_option maxRecDepth 100000 in
theorem tw269 : (.instantiable "FamilyChart$History" 6 : Cond) ∈ gw := gw_t 269 (by decide +kernel) rfl
set_option maxRecDepth 100000 in
theorem tw270 : (.methodLink "FamilyChart" 59 ⟨"FamilyChart$History", "<init>", "(LFamilyChart$Family;LFamilyChart$Rows;)V"⟩ : Cond) ∈ gw := gw_t 270 (by decide +kernel) rfl
set_option maxRecDepth 100000 in
theorem tw271 : (.instanceMethod ⟨"FamilyChart$History", "<init>", "(LFamilyChart$Family;LFamilyChart$Rows;)V"⟩ : Cond) ∈ gw := gw_t 271 (by decide +kernel) rfl
set_option maxRecDepth 100000 in
theorem tw272 : (.code ⟨"FamilyChart$History", "<init>", "(LFamilyChart$Family;LFamilyChart$Rows;)V"⟩ prog_4_method_1_code 3 (Option.none : Option ClassFile.FieldType) : Cond) ∈ gw := gw_t 272 (by decide +kernel) rfl
set_option maxRecDepth 100000 in
theorem tw273 : (.methodLink "FamilyChart$History" 5 ⟨"java/lang/Object", "<init>", "()V"⟩ : Cond) ∈ gw := gw_t 273 (by decide +kernel) rfl
set_option maxRecDepth 100000 in
theorem tw274 : (.fieldLink "FamilyChart$History" 15 "FamilyChart$History" "family" "LFamilyChart$Family;" : Cond) ∈ gw := gw_t 274 (by decide +kernel) rfl
set_option maxRecDepth 100000 in
theorem tw275 : (.fieldLink "FamilyChart$History" 19 "FamilyChart$History" "rows" "LFamilyChart$Rows;" : Cond) ∈ gw := gw_t 275 (by decide +kernel) rfl
set_option maxRecDepth 100000 in
theorem tw276 : (.fieldLink "FamilyChart$History" 11 "FamilyChart$History" "cells" "[I" : Cond) ∈ gw := gw_t 276 (by decide +kernel) rfl
set_option maxRecDepth 100000 in
theorem tw277 : (.fieldLink "FamilyChart$History" 31 "FamilyChart$History" "next" "I" : Cond) ∈ gw := gw_t 277 (by decide +kernel) rfl
set_option maxRecDepth 100000 in
theorem tw278 : (.fieldLink "FamilyChart$History" 23 "FamilyChart$History" "held" "I" : Cond) ∈ gw := gw_t 278 (by decide +kernel) rfl
set_option maxRecDepth 100000 in
theorem tw279 : (.fieldLink "FamilyChart" 337 "FamilyChart$History" "held" "I" : Cond) ∈ gw := gw_t 279 (by decide +kernel) rfl
set_option maxRecDepth 100000 in
theorem tw280 : (.fieldLink "FamilyChart$History" 27 "FamilyChart$History" "snapshotKept" "Z" : Cond) ∈ gw := gw_t 280 (by decide +kernel) rfl
set_option maxRecDepth 100000 in
theorem tw281 : (.fieldLink "FamilyChart" 346 "FamilyChart$History" "snapshotKept" "Z" : Cond) ∈ gw := gw_t 281 (by decide +kernel) rfl
set_option maxRecDepth 100000 in
theorem tw295 : (.classLink "FamilyChart" 64 "FamilyChart$TextReader" : Cond) ∈ gw := gw_t 295 (by decide +kernel) rfl
set_option maxRecDepth 100000 in
theorem tw296 : (.instantiable "FamilyChart$TextReader" 2 : Cond) ∈ gw := gw_t 296 (by decide +kernel) rfl
set_option maxRecDepth 100000 in
theorem tw297 : (.methodLink "FamilyChart" 66 ⟨"FamilyChart$TextReader", "<init>", "(LFamilyChart$Input;)V"⟩ : Cond) ∈ gw := gw_t 297 (by decide +kernel) rfl
set_option maxRecDepth 100000 in
theorem tw298 : (.instanceMethod ⟨"FamilyChart$TextReader", "<init>", "(LFamilyChart$Input;)V"⟩ : Cond) ∈ gw := gw_t 298 (by decide +kernel) rfl
set_option maxRecDepth 100000 in
theorem tw299 : (.code ⟨"FamilyChart$TextReader", "<init>", "(LFamilyChart$Input;)V"⟩ prog_10_method_1_code 2 (Option.none : Option ClassFile.FieldType) : Cond) ∈ gw := gw_t 299 (by decide +kernel) rfl
set_option maxRecDepth 100000 in
theorem tw300 : (.methodLink "FamilyChart$TextReader" 3 ⟨"java/lang/Object", "<init>", "()V"⟩ : Cond) ∈ gw := gw_t 300 (by decide +kernel) rfl
set_option maxRecDepth 100000 in
theorem tw301 : (.classLink "FamilyChart$TextReader" 9 "FamilyChart$Family" : Cond) ∈ gw := gw_t 301 (by decide +kernel) rfl
set_option maxRecDepth 100000 in
theorem tw303 : (.fieldLink "FamilyChart$TextReader" 18 "FamilyChart$TextReader" "input" "LFamilyChart$Input;" : Cond) ∈ gw := gw_t 303 (by decide +kernel) rfl
set_option maxRecDepth 100000 in
theorem tw304 : (.fieldLink "FamilyChart$TextReader" 12 "FamilyChart$TextReader" "draft" "LFamilyChart$Family;" : Cond) ∈ gw := gw_t 304 (by decide +kernel) rfl
set_option maxRecDepth 100000 in
theorem tw305 : (.fieldLink "FamilyChart" 105 "FamilyChart$TextReader" "draft" "LFamilyChart$Family;" : Cond) ∈ gw := gw_t 305 (by decide +kernel) rfl
set_option maxRecDepth 100000 in
theorem tw311 : (.classLink "FamilyChart" 73 "FamilyChart$QueryReader" : Cond) ∈ gw := gw_t 311 (by decide +kernel) rfl
set_option maxRecDepth 100000 in
theorem tw312 : (.instantiable "FamilyChart$QueryReader" 5 : Cond) ∈ gw := gw_t 312 (by decide +kernel) rfl
set_option maxRecDepth 100000 in
theorem tw313 : (.methodLink "FamilyChart" 75 ⟨"FamilyChart$QueryReader", "<init>", "(LFamilyChart$Input;LFamilyChart$Family;)V"⟩ : Cond) ∈ gw := gw_t 313 (by decide +kernel) rfl
set_option maxRecDepth 100000 in
theorem tw314 : (.instanceMethod ⟨"FamilyChart$QueryReader", "<init>", "(LFamilyChart$Input;LFamilyChart$Family;)V"⟩ : Cond) ∈ gw := gw_t 314 (by decide +kernel) rfl
set_option maxRecDepth 100000 in
theorem tw315 : (.code ⟨"FamilyChart$QueryReader", "<init>", "(LFamilyChart$Input;LFamilyChart$Family;)V"⟩ prog_7_method_1_code 3 (Option.none : Option ClassFile.FieldType) : Cond) ∈ gw := gw_t 315 (by decide +kernel) rfl
set_option maxRecDepth 100000 in
theorem tw316 : (.methodLink "FamilyChart$QueryReader" 3 ⟨"java/lang/Object", "<init>", "()V"⟩ : Cond) ∈ gw := gw_t 316 (by decide +kernel) rfl
set_option maxRecDepth 100000 in
theorem tw317 : (.fieldLink "FamilyChart$QueryReader" 21 "FamilyChart$QueryReader" "input" "LFamilyChart$Input;" : Cond) ∈ gw := gw_t 317 (by decide +kernel) rfl
set_option maxRecDepth 100000 in
theorem tw318 : (.fieldLink "FamilyChart$QueryReader" 25 "FamilyChart$QueryReader" "family" "LFamilyChart$Family;" : Cond) ∈ gw := gw_t 318 (by decide +kernel) rfl
set_option maxRecDepth 100000 in
theorem tw319 : (.fieldLink "FamilyChart$QueryReader" 9 "FamilyChart$QueryReader" "leftValues" "[I" : Cond) ∈ gw := gw_t 319 (by decide +kernel) rfl
set_option maxRecDepth 100000 in
theorem tw320 : (.fieldLink "FamilyChart$QueryReader" 15 "FamilyChart$QueryReader" "rightValues" "[I" : Cond) ∈ gw := gw_t 320 (by decide +kernel) rfl
set_option maxRecDepth 100000 in
theorem tw321 : (.fieldLink "FamilyChart$QueryReader" 18 "FamilyChart$QueryReader" "properties" "[I" : Cond) ∈ gw := gw_t 321 (by decide +kernel) rfl
set_option maxRecDepth 100000 in
theorem tw333 : (.fieldLink "FamilyChart" 12 "FamilyChart" "input" "LFamilyChart$Input;" : Cond) ∈ gw := gw_t 333 (by decide +kernel) rfl
set_option maxRecDepth 100000 in
theorem tw334 : (.fieldLink "FamilyChart" 19 "FamilyChart" "family" "LFamilyChart$Family;" : Cond) ∈ gw := gw_t 334 (by decide +kernel) rfl
set_option maxRecDepth 100000 in
theorem tw335 : (.fieldLink "FamilyChart" 28 "FamilyChart" "relations" "LFamilyChart$Relations;" : Cond) ∈ gw := gw_t 335 (by decide +kernel) rfl
set_option maxRecDepth 100000 in
theorem tw336 : (.fieldLink "FamilyChart" 35 "FamilyChart" "rows" "LFamilyChart$Rows;" : Cond) ∈ gw := gw_t 336 (by decide +kernel) rfl
set_option maxRecDepth 100000 in
theorem tw337 : (.fieldLink "FamilyChart" 44 "FamilyChart" "columns" "LFamilyChart$Columns;" : Cond) ∈ gw := gw_t 337 (by decide +kernel) rfl
set_option maxRecDepth 100000 in
theorem tw338 : (.fieldLink "FamilyChart" 53 "FamilyChart" "printer" "LFamilyChart$Printer;" : Cond) ∈ gw := gw_t 338 (by decide +kernel) rfl
set_option maxRecDepth 100000 in
theorem tw339 : (.fieldLink "FamilyChart" 60 "FamilyChart" "history" "LFamilyChart$History;" : Cond) ∈ gw := gw_t 339 (by decide +kernel) rfl
set_option maxRecDepth 100000 in
theorem tw340 : (.fieldLink "FamilyChart" 69 "FamilyChart" "textReader" "LFamilyChart$TextReader;" : Cond) ∈ gw := gw_t 340 (by decide +kernel) rfl
set_option maxRecDepth 100000 in
theorem tw341 : (.fieldLink "FamilyChart" 78 "FamilyChart" "queryReader" "LFamilyChart$QueryReader;" : Cond) ∈ gw := gw_t 341 (by decide +kernel) rfl
set_option maxRecDepth 100000 in
theorem tw361 : (.methodLink "FamilyChartLaw" 111 ⟨"FamilyChart", "count", "(I)I"⟩ : Cond) ∈ gw := gw_t 361 (by decide +kernel) rfl
set_option maxRecDepth 100000 in
theorem tw362 : (.instanceMethod ⟨"FamilyChart", "count", "(I)I"⟩ : Cond) ∈ gw := gw_t 362 (by decide +kernel) rfl
set_option maxRecDepth 100000 in
theorem tw363 : (.selects "FamilyChart" ⟨"FamilyChart", "count", "(I)I"⟩ ⟨"FamilyChart", "count", "(I)I"⟩ : Cond) ∈ gw := gw_t 363 (by decide +kernel) rfl
set_option maxRecDepth 100000 in
theorem tw364 : (.code ⟨"FamilyChart", "count", "(I)I"⟩ prog_1_method_5_code 2 (Option.some ClassFile.FieldType.int) : Cond) ∈ gw := gw_t 364 (by decide +kernel) rfl
set_option maxRecDepth 100000 in
theorem tw365 : (.methodLink "FamilyChart" 129 ⟨"FamilyChart$Rows", "boxCount", "()I"⟩ : Cond) ∈ gw := gw_t 365 (by decide +kernel) rfl
set_option maxRecDepth 100000 in
theorem tw366 : (.instanceMethod ⟨"FamilyChart$Rows", "boxCount", "()I"⟩ : Cond) ∈ gw := gw_t 366 (by decide +kernel) rfl
set_option maxRecDepth 100000 in
theorem tw367 : (.selects "FamilyChart$Rows" ⟨"FamilyChart$Rows", "boxCount", "()I"⟩ ⟨"FamilyChart$Rows", "boxCount", "()I"⟩ : Cond) ∈ gw := gw_t 367 (by decide +kernel) rfl
set_option maxRecDepth 100000 in
theorem tw368 : (.code ⟨"FamilyChart$Rows", "boxCount", "()I"⟩ prog_9_method_8_code 1 (Option.some ClassFile.FieldType.int) : Cond) ∈ gw := gw_t 368 (by decide +kernel) rfl
set_option maxRecDepth 100000 in
theorem tw370 : (.static ⟨"FamilyChart", "at", "([II)I"⟩ : Cond) ∈ gw := gw_t 370 (by decide +kernel) rfl
set_option maxRecDepth 100000 in
theorem tw371 : (.code ⟨"FamilyChart", "at", "([II)I"⟩ prog_1_method_47_code 2 (Option.some ClassFile.FieldType.int) : Cond) ∈ gw := gw_t 371 (by decide +kernel) rfl
set_option maxRecDepth 100000 in
theorem tw372 : (.methodLink "FamilyChart" 133 ⟨"FamilyChart$Family", "countWithoutParents", "()I"⟩ : Cond) ∈ gw := gw_t 372 (by decide +kernel) rfl
set_option maxRecDepth 100000 in
theorem tw373 : (.instanceMethod ⟨"FamilyChart$Family", "countWithoutParents", "()I"⟩ : Cond) ∈ gw := gw_t 373 (by decide +kernel) rfl
set_option maxRecDepth 100000 in
theorem tw374 : (.selects "FamilyChart$Family" ⟨"FamilyChart$Family", "countWithoutParents", "()I"⟩ ⟨"FamilyChart$Family", "countWithoutParents", "()I"⟩ : Cond) ∈ gw := gw_t 374 (by decide +kernel) rfl
set_option maxRecDepth 100000 in
theorem tw375 : (.code ⟨"FamilyChart$Family", "countWithoutParents", "()I"⟩ prog_3_method_24_code 3 (Option.some ClassFile.FieldType.int) : Cond) ∈ gw := gw_t 375 (by decide +kernel) rfl
set_option maxRecDepth 100000 in
theorem tw376 : (.methodLink "FamilyChart$Family" 88 ⟨"FamilyChart$Family", "hasParents", "(I)Z"⟩ : Cond) ∈ gw := gw_t 376 (by decide +kernel) rfl
set_option maxRecDepth 100000 in
theorem tw377 : (.instanceMethod ⟨"FamilyChart$Family", "hasParents", "(I)Z"⟩ : Cond) ∈ gw := gw_t 377 (by decide +kernel) rfl
set_option maxRecDepth 100000 in
theorem tw378 : (.selects "FamilyChart$Family" ⟨"FamilyChart$Family", "hasParents", "(I)Z"⟩ ⟨"FamilyChart$Family", "hasParents", "(I)Z"⟩ : Cond) ∈ gw := gw_t 378 (by decide +kernel) rfl
set_option maxRecDepth 100000 in
theorem tw379 : (.code ⟨"FamilyChart$Family", "hasParents", "(I)Z"⟩ prog_3_method_13_code 2 (Option.some ClassFile.FieldType.boolean) : Cond) ∈ gw := gw_t 379 (by decide +kernel) rfl
set_option maxRecDepth 100000 in
theorem tw381 : (.methodLink "FamilyChart" 136 ⟨"FamilyChart$Family", "countWithoutChildren", "()I"⟩ : Cond) ∈ gw := gw_t 381 (by decide +kernel) rfl
set_option maxRecDepth 100000 in
theorem tw382 : (.instanceMethod ⟨"FamilyChart$Family", "countWithoutChildren", "()I"⟩ : Cond) ∈ gw := gw_t 382 (by decide +kernel) rfl
set_option maxRecDepth 100000 in
theorem tw383 : (.selects "FamilyChart$Family" ⟨"FamilyChart$Family", "countWithoutChildren", "()I"⟩ ⟨"FamilyChart$Family", "countWithoutChildren", "()I"⟩ : Cond) ∈ gw := gw_t 383 (by decide +kernel) rfl
set_option maxRecDepth 100000 in
theorem tw384 : (.code ⟨"FamilyChart$Family", "countWithoutChildren", "()I"⟩ prog_3_method_25_code 3 (Option.some ClassFile.FieldType.int) : Cond) ∈ gw := gw_t 384 (by decide +kernel) rfl
set_option maxRecDepth 100000 in
theorem tw385 : (.methodLink "FamilyChart$Family" 111 ⟨"FamilyChart$Family", "childMaskOfPerson", "(I)I"⟩ : Cond) ∈ gw := gw_t 385 (by decide +kernel) rfl
set_option maxRecDepth 100000 in
theorem tw386 : (.instanceMethod ⟨"FamilyChart$Family", "childMaskOfPerson", "(I)I"⟩ : Cond) ∈ gw := gw_t 386 (by decide +kernel) rfl
set_option maxRecDepth 100000 in
theorem tw387 : (.selects "FamilyChart$Family" ⟨"FamilyChart$Family", "childMaskOfPerson", "(I)I"⟩ ⟨"FamilyChart$Family", "childMaskOfPerson", "(I)I"⟩ : Cond) ∈ gw := gw_t 387 (by decide +kernel) rfl
set_option maxRecDepth 100000 in
theorem tw388 : (.code ⟨"FamilyChart$Family", "childMaskOfPerson", "(I)I"⟩ prog_3_method_21_code 4 (Option.some ClassFile.FieldType.int) : Cond) ∈ gw := gw_t 388 (by decide +kernel) rfl
set_option maxRecDepth 100000 in
theorem tw389 : (.methodLink "FamilyChart$Family" 104 ⟨"FamilyChart$Family", "isPartner", "(II)Z"⟩ : Cond) ∈ gw := gw_t 389 (by decide +kernel) rfl
set_option maxRecDepth 100000 in
theorem tw390 : (.instanceMethod ⟨"FamilyChart$Family", "isPartner", "(II)Z"⟩ : Cond) ∈ gw := gw_t 390 (by decide +kernel) rfl
set_option maxRecDepth 100000 in
theorem tw391 : (.selects "FamilyChart$Family" ⟨"FamilyChart$Family", "isPartner", "(II)Z"⟩ ⟨"FamilyChart$Family", "isPartner", "(II)Z"⟩ : Cond) ∈ gw := gw_t 391 (by decide +kernel) rfl
set_option maxRecDepth 100000 in
theorem tw392 : (.code ⟨"FamilyChart$Family", "isPartner", "(II)Z"⟩ prog_3_method_17_code 3 (Option.some ClassFile.FieldType.boolean) : Cond) ∈ gw := gw_t 392 (by decide +kernel) rfl
set_option maxRecDepth 100000 in
theorem tw393 : (.methodLink "FamilyChart$Family" 108 ⟨"FamilyChart$Family", "childMask", "(I)I"⟩ : Cond) ∈ gw := gw_t 393 (by decide +kernel) rfl
set_option maxRecDepth 100000 in
theorem tw394 : (.instanceMethod ⟨"FamilyChart$Family", "childMask", "(I)I"⟩ : Cond) ∈ gw := gw_t 394 (by decide +kernel) rfl
set_option maxRecDepth 100000 in
theorem tw395 : (.selects "FamilyChart$Family" ⟨"FamilyChart$Family", "childMask", "(I)I"⟩ ⟨"FamilyChart$Family", "childMask", "(I)I"⟩ : Cond) ∈ gw := gw_t 395 (by decide +kernel) rfl
set_option maxRecDepth 100000 in
theorem tw396 : (.code ⟨"FamilyChart$Family", "childMask", "(I)I"⟩ prog_3_method_20_code 4 (Option.some ClassFile.FieldType.int) : Cond) ∈ gw := gw_t 396 (by decide +kernel) rfl
set_option maxRecDepth 100000 in
theorem tw398 : (.static ⟨"FamilyChart", "bit", "(I)I"⟩ : Cond) ∈ gw := gw_t 398 (by decide +kernel) rfl
set_option maxRecDepth 100000 in
theorem tw399 : (.code ⟨"FamilyChart", "bit", "(I)I"⟩ prog_1_method_51_code 1 (Option.some ClassFile.FieldType.int) : Cond) ∈ gw := gw_t 399 (by decide +kernel) rfl
set_option maxRecDepth 100000 in
theorem tw400 : (.methodLink "FamilyChartLaw" 192 ⟨"FamilyChart", "plain", "()V"⟩ : Cond) ∈ gw := gw_t 400 (by decide +kernel) rfl
set_option maxRecDepth 100000 in
theorem tw401 : (.instanceMethod ⟨"FamilyChart", "plain", "()V"⟩ : Cond) ∈ gw := gw_t 401 (by decide +kernel) rfl
set_option maxRecDepth 100000 in
theorem tw402 : (.selects "FamilyChart" ⟨"FamilyChart", "plain", "()V"⟩ ⟨"FamilyChart", "plain", "()V"⟩ : Cond) ∈ gw := gw_t 402 (by decide +kernel) rfl
set_option maxRecDepth 100000 in
theorem tw403 : (.code ⟨"FamilyChart", "plain", "()V"⟩ prog_1_method_35_code 1 (Option.none : Option ClassFile.FieldType) : Cond) ∈ gw := gw_t 403 (by decide +kernel) rfl
set_option maxRecDepth 100000 in
theorem tw404 : (.methodLink "FamilyChart" 307 ⟨"FamilyChart$History", "record", "()V"⟩ : Cond) ∈ gw := gw_t 404 (by decide +kernel) rfl
set_option maxRecDepth 100000 in
theorem tw405 : (.instanceMethod ⟨"FamilyChart$History", "record", "()V"⟩ : Cond) ∈ gw := gw_t 405 (by decide +kernel) rfl
set_option maxRecDepth 100000 in
theorem tw406 : (.selects "FamilyChart$History" ⟨"FamilyChart$History", "record", "()V"⟩ ⟨"FamilyChart$History", "record", "()V"⟩ : Cond) ∈ gw := gw_t 406 (by decide +kernel) rfl
set_option maxRecDepth 100000 in
theorem tw407 : (.code ⟨"FamilyChart$History", "record", "()V"⟩ prog_4_method_3_code 1 (Option.none : Option ClassFile.FieldType) : Cond) ∈ gw := gw_t 407 (by decide +kernel) rfl
set_option maxRecDepth 100000 in
theorem tw408 : (.methodLink "FamilyChart$History" 34 ⟨"FamilyChart$History", "save", "(I)V"⟩ : Cond) ∈ gw := gw_t 408 (by decide +kernel) rfl
set_option maxRecDepth 100000 in
theorem tw410 : (.instanceMethod ⟨"FamilyChart$History", "save", "(I)V"⟩ : Cond) ∈ gw := gw_t 410 (by decide +kernel) rfl
set_option maxRecDepth 100000 in
theorem tw411 : (.code ⟨"FamilyChart$History", "save", "(I)V"⟩ prog_4_method_7_code 3 (Option.none : Option ClassFile.FieldType) : Cond) ∈ gw := gw_t 411 (by decide +kernel) rfl
set_option maxRecDepth 100000 in
theorem tw413 : (.static ⟨"FamilyChart", "put", "([III)V"⟩ : Cond) ∈ gw := gw_t 413 (by decide +kernel) rfl
set_option maxRecDepth 100000 in
theorem tw414 : (.code ⟨"FamilyChart", "put", "([III)V"⟩ prog_1_method_48_code 3 (Option.none : Option ClassFile.FieldType) : Cond) ∈ gw := gw_t 414 (by decide +kernel) rfl
set_option maxRecDepth 100000 in
theorem tw416 : (.static ⟨"FamilyChart", "copyCells", "([II[III)V"⟩ : Cond) ∈ gw := gw_t 416 (by decide +kernel) rfl
set_option maxRecDepth 100000 in
theorem tw417 : (.code ⟨"FamilyChart", "copyCells", "([II[III)V"⟩ prog_1_method_50_code 6 (Option.none : Option ClassFile.FieldType) : Cond) ∈ gw := gw_t 417 (by decide +kernel) rfl
set_option maxRecDepth 100000 in
theorem tw418 : (.methodLink "FamilyChart" 146 ⟨"FamilyChart", "at", "([II)I"⟩ : Cond) ∈ gw := gw_t 418 (by decide +kernel) rfl
set_option maxRecDepth 100000 in
theorem tw419 : (.methodLink "FamilyChart" 325 ⟨"FamilyChart", "put", "([III)V"⟩ : Cond) ∈ gw := gw_t 419 (by decide +kernel) rfl
set_option maxRecDepth 100000 in
theorem tw420 : (.methodLink "FamilyChart$History" 72 ⟨"FamilyChart$Rows", "saveOrder", "([II)V"⟩ : Cond) ∈ gw := gw_t 420 (by decide +kernel) rfl
set_option maxRecDepth 100000 in
theorem tw421 : (.instanceMethod ⟨"FamilyChart$Rows", "saveOrder", "([II)V"⟩ : Cond) ∈ gw := gw_t 421 (by decide +kernel) rfl
set_option maxRecDepth 100000 in
theorem tw422 : (.selects "FamilyChart$Rows" ⟨"FamilyChart$Rows", "saveOrder", "([II)V"⟩ ⟨"FamilyChart$Rows", "saveOrder", "([II)V"⟩ : Cond) ∈ gw := gw_t 422 (by decide +kernel) rfl
set_option maxRecDepth 100000 in
theorem tw423 : (.code ⟨"FamilyChart$Rows", "saveOrder", "([II)V"⟩ prog_9_method_6_code 3 (Option.none : Option ClassFile.FieldType) : Cond) ∈ gw := gw_t 423 (by decide +kernel) rfl
set_option maxRecDepth 100000 in
theorem tw425 : (.methodLink "FamilyChart$History" 38 ⟨"java/lang/Math", "min", "(II)I"⟩ : Cond) ∈ gw := gw_t 425 (by decide +kernel) rfl
set_option maxRecDepth 100000 in
theorem tw426 : (.static ⟨"java/lang/Math", "min", "(II)I"⟩ : Cond) ∈ gw := gw_t 426 (by decide +kernel) rfl
set_option maxRecDepth 100000 in
theorem tw427 : (.code ⟨"java/lang/Math", "min", "(II)I"⟩ prog_20_method_69_code 2 (Option.some ClassFile.FieldType.int) : Cond) ∈ gw := gw_t 427 (by decide +kernel) rfl
set_option maxRecDepth 100000 in
theorem tw428 : (.methodLink "FamilyChart" 111 ⟨"FamilyChart$Rows", "layPlain", "()V"⟩ : Cond) ∈ gw := gw_t 428 (by decide +kernel) rfl
set_option maxRecDepth 100000 in
theorem tw429 : (.instanceMethod ⟨"FamilyChart$Rows", "layPlain", "()V"⟩ : Cond) ∈ gw := gw_t 429 (by decide +kernel) rfl
set_option maxRecDepth 100000 in
theorem tw430 : (.selects "FamilyChart$Rows" ⟨"FamilyChart$Rows", "layPlain", "()V"⟩ ⟨"FamilyChart$Rows", "layPlain", "()V"⟩ : Cond) ∈ gw := gw_t 430 (by decide +kernel) rfl
set_option maxRecDepth 100000 in
theorem tw431 : (.code ⟨"FamilyChart$Rows", "layPlain", "()V"⟩ prog_9_method_2_code 3 (Option.none : Option ClassFile.FieldType) : Cond) ∈ gw := gw_t 431 (by decide +kernel) rfl
set_option maxRecDepth 100000 in
theorem tw432 : (.methodLink "FamilyChart$Rows" 34 ⟨"FamilyChart$Rows", "noteBoxesOfUnions", "()V"⟩ : Cond) ∈ gw := gw_t 432 (by decide +kernel) rfl
set_option maxRecDepth 100000 in
theorem tw434 : (.instanceMethod ⟨"FamilyChart$Rows", "noteBoxesOfUnions", "()V"⟩ : Cond) ∈ gw := gw_t 434 (by decide +kernel) rfl
set_option maxRecDepth 100000 in
theorem tw435 : (.code ⟨"FamilyChart$Rows", "noteBoxesOfUnions", "()V"⟩ prog_9_method_3_code 5 (Option.none : Option ClassFile.FieldType) : Cond) ∈ gw := gw_t 435 (by decide +kernel) rfl
set_option maxRecDepth 100000 in
theorem tw437 : (.methodLink "FamilyChart$Rows" 47 ⟨"FamilyChart$Rows", "layRow", "(II)I"⟩ : Cond) ∈ gw := gw_t 437 (by decide +kernel) rfl
set_option maxRecDepth 100000 in
theorem tw439 : (.instanceMethod ⟨"FamilyChart$Rows", "layRow", "(II)I"⟩ : Cond) ∈ gw := gw_t 439 (by decide +kernel) rfl
set_option maxRecDepth 100000 in
theorem tw440 : (.code ⟨"FamilyChart$Rows", "layRow", "(II)I"⟩ prog_9_method_4_code 5 (Option.some ClassFile.FieldType.int) : Cond) ∈ gw := gw_t 440 (by decide +kernel) rfl
set_option maxRecDepth 100000 in
theorem tw441 : (.methodLink "FamilyChart$Rows" 51 ⟨"FamilyChart$Rows", "notePlaces", "()V"⟩ : Cond) ∈ gw := gw_t 441 (by decide +kernel) rfl
set_option maxRecDepth 100000 in
theorem tw443 : (.instanceMethod ⟨"FamilyChart$Rows", "notePlaces", "()V"⟩ : Cond) ∈ gw := gw_t 443 (by decide +kernel) rfl
set_option maxRecDepth 100000 in
theorem tw444 : (.code ⟨"FamilyChart$Rows", "notePlaces", "()V"⟩ prog_9_method_5_code 3 (Option.none : Option ClassFile.FieldType) : Cond) ∈ gw := gw_t 444 (by decide +kernel) rfl
set_option maxRecDepth 100000 in
theorem tw445 : (.methodLink "FamilyChart$Rows" 79 ⟨"FamilyChart$Rows", "boxCountOf", "(I)I"⟩ : Cond) ∈ gw := gw_t 445 (by decide +kernel) rfl
set_option maxRecDepth 100000 in
theorem tw446 : (.instanceMethod ⟨"FamilyChart$Rows", "boxCountOf", "(I)I"⟩ : Cond) ∈ gw := gw_t 446 (by decide +kernel) rfl
set_option maxRecDepth 100000 in
theorem tw447 : (.selects "FamilyChart$Rows" ⟨"FamilyChart$Rows", "boxCountOf", "(I)I"⟩ ⟨"FamilyChart$Rows", "boxCountOf", "(I)I"⟩ : Cond) ∈ gw := gw_t 447 (by decide +kernel) rfl
set_option maxRecDepth 100000 in
theorem tw448 : (.code ⟨"FamilyChart$Rows", "boxCountOf", "(I)I"⟩ prog_9_method_9_code 2 (Option.some ClassFile.FieldType.int) : Cond) ∈ gw := gw_t 448 (by decide +kernel) rfl
set_option maxRecDepth 100000 in
theorem tw449 : (.methodLink "FamilyChart$Rows" 83 ⟨"FamilyChart$Rows", "boxAt", "(II)I"⟩ : Cond) ∈ gw := gw_t 449 (by decide +kernel) rfl
set_option maxRecDepth 100000 in
theorem tw450 : (.instanceMethod ⟨"FamilyChart$Rows", "boxAt", "(II)I"⟩ : Cond) ∈ gw := gw_t 450 (by decide +kernel) rfl
set_option maxRecDepth 100000 in
theorem tw451 : (.selects "FamilyChart$Rows" ⟨"FamilyChart$Rows", "boxAt", "(II)I"⟩ ⟨"FamilyChart$Rows", "boxAt", "(II)I"⟩ : Cond) ∈ gw := gw_t 451 (by decide +kernel) rfl
set_option maxRecDepth 100000 in
theorem tw452 : (.code ⟨"FamilyChart$Rows", "boxAt", "(II)I"⟩ prog_9_method_10_code 3 (Option.some ClassFile.FieldType.int) : Cond) ∈ gw := gw_t 452 (by decide +kernel) rfl
set_option maxRecDepth 100000 in
theorem tw453 : (.methodLink "FamilyChartLaw" 244 ⟨"FamilyChart", "undoCount", "()I"⟩ : Cond) ∈ gw := gw_t 453 (by decide +kernel) rfl
set_option maxRecDepth 100000 in
theorem tw454 : (.instanceMethod ⟨"FamilyChart", "undoCount", "()I"⟩ : Cond) ∈ gw := gw_t 454 (by decide +kernel) rfl
set_option maxRecDepth 100000 in
theorem tw455 : (.selects "FamilyChart" ⟨"FamilyChart", "undoCount", "()I"⟩ ⟨"FamilyChart", "undoCount", "()I"⟩ : Cond) ∈ gw := gw_t 455 (by decide +kernel) rfl
set_option maxRecDepth 100000 in
theorem tw456 : (.code ⟨"FamilyChart", "undoCount", "()I"⟩ prog_1_method_36_code 1 (Option.some ClassFile.FieldType.int) : Cond) ∈ gw := gw_t 456 (by decide +kernel) rfl
set_option maxRecDepth 100000 in
theorem tw457 : (.methodLink "FamilyChartLaw" 240 ⟨"FamilyChart", "undo", "()I"⟩ : Cond) ∈ gw := gw_t 457 (by decide +kernel) rfl
set_option maxRecDepth 100000 in
theorem tw458 : (.instanceMethod ⟨"FamilyChart", "undo", "()I"⟩ : Cond) ∈ gw := gw_t 458 (by decide +kernel) rfl
set_option maxRecDepth 100000 in
theorem tw459 : (.selects "FamilyChart" ⟨"FamilyChart", "undo", "()I"⟩ ⟨"FamilyChart", "undo", "()I"⟩ : Cond) ∈ gw := gw_t 459 (by decide +kernel) rfl
set_option maxRecDepth 100000 in
theorem tw460 : (.code ⟨"FamilyChart", "undo", "()I"⟩ prog_1_method_37_code 1 (Option.some ClassFile.FieldType.int) : Cond) ∈ gw := gw_t 460 (by decide +kernel) rfl
set_option maxRecDepth 100000 in
theorem tw461 : (.methodLink "FamilyChart" 340 ⟨"FamilyChart$History", "takeBack", "()V"⟩ : Cond) ∈ gw := gw_t 461 (by decide +kernel) rfl
set_option maxRecDepth 100000 in
theorem tw462 : (.instanceMethod ⟨"FamilyChart$History", "takeBack", "()V"⟩ : Cond) ∈ gw := gw_t 462 (by decide +kernel) rfl
set_option maxRecDepth 100000 in
theorem tw463 : (.selects "FamilyChart$History" ⟨"FamilyChart$History", "takeBack", "()V"⟩ ⟨"FamilyChart$History", "takeBack", "()V"⟩ : Cond) ∈ gw := gw_t 463 (by decide +kernel) rfl
set_option maxRecDepth 100000 in
theorem tw464 : (.code ⟨"FamilyChart$History", "takeBack", "()V"⟩ prog_4_method_4_code 1 (Option.none : Option ClassFile.FieldType) : Cond) ∈ gw := gw_t 464 (by decide +kernel) rfl
set_option maxRecDepth 100000 in
theorem tw465 : (.methodLink "FamilyChart$History" 44 ⟨"FamilyChart$History", "bring", "(I)V"⟩ : Cond) ∈ gw := gw_t 465 (by decide +kernel) rfl
set_option maxRecDepth 100000 in
theorem tw467 : (.instanceMethod ⟨"FamilyChart$History", "bring", "(I)V"⟩ : Cond) ∈ gw := gw_t 467 (by decide +kernel) rfl
set_option maxRecDepth 100000 in
theorem tw468 : (.code ⟨"FamilyChart$History", "bring", "(I)V"⟩ prog_4_method_8_code 3 (Option.none : Option ClassFile.FieldType) : Cond) ∈ gw := gw_t 468 (by decide +kernel) rfl
set_option maxRecDepth 100000 in
theorem tw470 : (.methodLink "FamilyChart$History" 82 ⟨"FamilyChart$Family", "refresh", "()V"⟩ : Cond) ∈ gw := gw_t 470 (by decide +kernel) rfl
set_option maxRecDepth 100000 in
theorem tw471 : (.instanceMethod ⟨"FamilyChart$Family", "refresh", "()V"⟩ : Cond) ∈ gw := gw_t 471 (by decide +kernel) rfl
set_option maxRecDepth 100000 in
theorem tw472 : (.selects "FamilyChart$Family" ⟨"FamilyChart$Family", "refresh", "()V"⟩ ⟨"FamilyChart$Family", "refresh", "()V"⟩ : Cond) ∈ gw := gw_t 472 (by decide +kernel) rfl
set_option maxRecDepth 100000 in
theorem tw473 : (.code ⟨"FamilyChart$Family", "refresh", "()V"⟩ prog_3_method_9_code 4 (Option.none : Option ClassFile.FieldType) : Cond) ∈ gw := gw_t 473 (by decide +kernel) rfl
set_option maxRecDepth 100000 in
theorem tw475 : (.static ⟨"FamilyChart", "fill", "([II)V"⟩ : Cond) ∈ gw := gw_t 475 (by decide +kernel) rfl
set_option maxRecDepth 100000 in
theorem tw476 : (.code ⟨"FamilyChart", "fill", "([II)V"⟩ prog_1_method_49_code 3 (Option.none : Option ClassFile.FieldType) : Cond) ∈ gw := gw_t 476 (by decide +kernel) rfl
set_option maxRecDepth 100000 in
theorem tw477 : (.methodLink "FamilyChart$Family" 71 ⟨"FamilyChart$Family", "passDown", "(I)Z"⟩ : Cond) ∈ gw := gw_t 477 (by decide +kernel) rfl
set_option maxRecDepth 100000 in
theorem tw479 : (.instanceMethod ⟨"FamilyChart$Family", "passDown", "(I)Z"⟩ : Cond) ∈ gw := gw_t 479 (by decide +kernel) rfl
set_option maxRecDepth 100000 in
theorem tw480 : (.code ⟨"FamilyChart$Family", "passDown", "(I)Z"⟩ prog_3_method_10_code 6 (Option.some ClassFile.FieldType.boolean) : Cond) ∈ gw := gw_t 480 (by decide +kernel) rfl
set_option maxRecDepth 100000 in
theorem tw481 : (.methodLink "FamilyChart$Family" 91 ⟨"FamilyChart$Family", "firstParent", "(I)I"⟩ : Cond) ∈ gw := gw_t 481 (by decide +kernel) rfl
set_option maxRecDepth 100000 in
theorem tw482 : (.instanceMethod ⟨"FamilyChart$Family", "firstParent", "(I)I"⟩ : Cond) ∈ gw := gw_t 482 (by decide +kernel) rfl
set_option maxRecDepth 100000 in
theorem tw483 : (.selects "FamilyChart$Family" ⟨"FamilyChart$Family", "firstParent", "(I)I"⟩ ⟨"FamilyChart$Family", "firstParent", "(I)I"⟩ : Cond) ∈ gw := gw_t 483 (by decide +kernel) rfl
set_option maxRecDepth 100000 in
theorem tw484 : (.code ⟨"FamilyChart$Family", "firstParent", "(I)I"⟩ prog_3_method_14_code 2 (Option.some ClassFile.FieldType.int) : Cond) ∈ gw := gw_t 484 (by decide +kernel) rfl
set_option maxRecDepth 100000 in
theorem tw485 : (.methodLink "FamilyChart$Family" 95 ⟨"FamilyChart$Family", "secondParent", "(I)I"⟩ : Cond) ∈ gw := gw_t 485 (by decide +kernel) rfl
set_option maxRecDepth 100000 in
theorem tw486 : (.instanceMethod ⟨"FamilyChart$Family", "secondParent", "(I)I"⟩ : Cond) ∈ gw := gw_t 486 (by decide +kernel) rfl
set_option maxRecDepth 100000 in
theorem tw487 : (.selects "FamilyChart$Family" ⟨"FamilyChart$Family", "secondParent", "(I)I"⟩ ⟨"FamilyChart$Family", "secondParent", "(I)I"⟩ : Cond) ∈ gw := gw_t 487 (by decide +kernel) rfl
set_option maxRecDepth 100000 in
theorem tw488 : (.code ⟨"FamilyChart$Family", "secondParent", "(I)I"⟩ prog_3_method_15_code 2 (Option.some ClassFile.FieldType.int) : Cond) ∈ gw := gw_t 488 (by decide +kernel) rfl
set_option maxRecDepth 100000 in
theorem tw489 : (.methodLink "FamilyChart$Family" 78 ⟨"java/lang/Math", "max", "(II)I"⟩ : Cond) ∈ gw := gw_t 489 (by decide +kernel) rfl
set_option maxRecDepth 100000 in
theorem tw490 : (.static ⟨"java/lang/Math", "max", "(II)I"⟩ : Cond) ∈ gw := gw_t 490 (by decide +kernel) rfl
set_option maxRecDepth 100000 in
theorem tw491 : (.code ⟨"java/lang/Math", "max", "(II)I"⟩ prog_20_method_65_code 2 (Option.some ClassFile.FieldType.int) : Cond) ∈ gw := gw_t 491 (by decide +kernel) rfl
set_option maxRecDepth 100000 in
theorem tw492 : (.methodLink "FamilyChart$Family" 98 ⟨"FamilyChart$Family", "lineageMask", "(I)I"⟩ : Cond) ∈ gw := gw_t 492 (by decide +kernel) rfl
set_option maxRecDepth 100000 in
theorem tw493 : (.instanceMethod ⟨"FamilyChart$Family", "lineageMask", "(I)I"⟩ : Cond) ∈ gw := gw_t 493 (by decide +kernel) rfl
set_option maxRecDepth 100000 in
theorem tw494 : (.selects "FamilyChart$Family" ⟨"FamilyChart$Family", "lineageMask", "(I)I"⟩ ⟨"FamilyChart$Family", "lineageMask", "(I)I"⟩ : Cond) ∈ gw := gw_t 494 (by decide +kernel) rfl
set_option maxRecDepth 100000 in
theorem tw495 : (.code ⟨"FamilyChart$Family", "lineageMask", "(I)I"⟩ prog_3_method_12_code 2 (Option.some ClassFile.FieldType.int) : Cond) ∈ gw := gw_t 495 (by decide +kernel) rfl
set_option maxRecDepth 100000 in
theorem tw497 : (.methodLink "FamilyChart$Family" 84 ⟨"FamilyChart$Family", "noteLevel", "(I)V"⟩ : Cond) ∈ gw := gw_t 497 (by decide +kernel) rfl
set_option maxRecDepth 100000 in
theorem tw499 : (.instanceMethod ⟨"FamilyChart$Family", "noteLevel", "(I)V"⟩ : Cond) ∈ gw := gw_t 499 (by decide +kernel) rfl
set_option maxRecDepth 100000 in
theorem tw500 : (.code ⟨"FamilyChart$Family", "noteLevel", "(I)V"⟩ prog_3_method_11_code 5 (Option.none : Option ClassFile.FieldType) : Cond) ∈ gw := gw_t 500 (by decide +kernel) rfl
set_option maxRecDepth 100000 in
theorem tw501 : (.methodLink "FamilyChart$History" 85 ⟨"FamilyChart$Rows", "bringOrder", "([II)V"⟩ : Cond) ∈ gw := gw_t 501 (by decide +kernel) rfl
set_option maxRecDepth 100000 in
theorem tw502 : (.instanceMethod ⟨"FamilyChart$Rows", "bringOrder", "([II)V"⟩ : Cond) ∈ gw := gw_t 502 (by decide +kernel) rfl
set_option maxRecDepth 100000 in
theorem tw503 : (.selects "FamilyChart$Rows" ⟨"FamilyChart$Rows", "bringOrder", "([II)V"⟩ ⟨"FamilyChart$Rows", "bringOrder", "([II)V"⟩ : Cond) ∈ gw := gw_t 503 (by decide +kernel) rfl
set_option maxRecDepth 100000 in
theorem tw504 : (.code ⟨"FamilyChart$Rows", "bringOrder", "([II)V"⟩ prog_9_method_7_code 3 (Option.none : Option ClassFile.FieldType) : Cond) ∈ gw := gw_t 504 (by decide +kernel) rfl
set_option maxRecDepth 100000 in
theorem tw505 : (.methodLink "FamilyChart$Rows" 90 ⟨"FamilyChart$Rows", "layPlain", "()V"⟩ : Cond) ∈ gw := gw_t 505 (by decide +kernel) rfl
set_option maxRecDepth 100000 in
theorem tw506 : (.methodLink "FamilyChartLaw" 263 ⟨"FamilyChart", "saveSnapshot", "()V"⟩ : Cond) ∈ gw := gw_t 506 (by decide +kernel) rfl
set_option maxRecDepth 100000 in
theorem tw507 : (.instanceMethod ⟨"FamilyChart", "saveSnapshot", "()V"⟩ : Cond) ∈ gw := gw_t 507 (by decide +kernel) rfl
set_option maxRecDepth 100000 in
theorem tw508 : (.selects "FamilyChart" ⟨"FamilyChart", "saveSnapshot", "()V"⟩ ⟨"FamilyChart", "saveSnapshot", "()V"⟩ : Cond) ∈ gw := gw_t 508 (by decide +kernel) rfl
set_option maxRecDepth 100000 in
theorem tw509 : (.code ⟨"FamilyChart", "saveSnapshot", "()V"⟩ prog_1_method_38_code 1 (Option.none : Option ClassFile.FieldType) : Cond) ∈ gw := gw_t 509 (by decide +kernel) rfl
set_option maxRecDepth 100000 in
theorem tw510 : (.methodLink "FamilyChart" 343 ⟨"FamilyChart$History", "keepSnapshot", "()V"⟩ : Cond) ∈ gw := gw_t 510 (by decide +kernel) rfl
set_option maxRecDepth 100000 in
theorem tw511 : (.instanceMethod ⟨"FamilyChart$History", "keepSnapshot", "()V"⟩ : Cond) ∈ gw := gw_t 511 (by decide +kernel) rfl
set_option maxRecDepth 100000 in
theorem tw512 : (.selects "FamilyChart$History" ⟨"FamilyChart$History", "keepSnapshot", "()V"⟩ ⟨"FamilyChart$History", "keepSnapshot", "()V"⟩ : Cond) ∈ gw := gw_t 512 (by decide +kernel) rfl
set_option maxRecDepth 100000 in
theorem tw513 : (.code ⟨"FamilyChart$History", "keepSnapshot", "()V"⟩ prog_4_method_5_code 1 (Option.none : Option ClassFile.FieldType) : Cond) ∈ gw := gw_t 513 (by decide +kernel) rfl
set_option maxRecDepth 100000 in
theorem tw514 : (.methodLink "FamilyChartLaw" 273 ⟨"FamilyChart", "restoreSnapshot", "()Z"⟩ : Cond) ∈ gw := gw_t 514 (by decide +kernel) rfl
set_option maxRecDepth 100000 in
theorem tw515 : (.instanceMethod ⟨"FamilyChart", "restoreSnapshot", "()Z"⟩ : Cond) ∈ gw := gw_t 515 (by decide +kernel) rfl
set_option maxRecDepth 100000 in
theorem tw516 : (.selects "FamilyChart" ⟨"FamilyChart", "restoreSnapshot", "()Z"⟩ ⟨"FamilyChart", "restoreSnapshot", "()Z"⟩ : Cond) ∈ gw := gw_t 516 (by decide +kernel) rfl
set_option maxRecDepth 100000 in
theorem tw517 : (.code ⟨"FamilyChart", "restoreSnapshot", "()Z"⟩ prog_1_method_39_code 1 (Option.some ClassFile.FieldType.boolean) : Cond) ∈ gw := gw_t 517 (by decide +kernel) rfl
set_option maxRecDepth 100000 in
theorem tw518 : (.methodLink "FamilyChart" 350 ⟨"FamilyChart$History", "bringSnapshot", "()V"⟩ : Cond) ∈ gw := gw_t 518 (by decide +kernel) rfl
set_option maxRecDepth 100000 in
theorem tw519 : (.instanceMethod ⟨"FamilyChart$History", "bringSnapshot", "()V"⟩ : Cond) ∈ gw := gw_t 519 (by decide +kernel) rfl
set_option maxRecDepth 100000 in
theorem tw520 : (.selects "FamilyChart$History" ⟨"FamilyChart$History", "bringSnapshot", "()V"⟩ ⟨"FamilyChart$History", "bringSnapshot", "()V"⟩ : Cond) ∈ gw := gw_t 520 (by decide +kernel) rfl
set_option maxRecDepth 100000 in
theorem tw521 : (.code ⟨"FamilyChart$History", "bringSnapshot", "()V"⟩ prog_4_method_6_code 1 (Option.none : Option ClassFile.FieldType) : Cond) ∈ gw := gw_t 521 (by decide +kernel) rfl
set_option maxRecDepth 100000 in
theorem tw522 : (.methodLink "FamilyChartLaw" 27 ⟨"FamilyChartLaw", "most", "(II)I"⟩ : Cond) ∈ gw := gw_t 522 (by decide +kernel) rfl
set_option maxRecDepth 100000 in
theorem tw523 : (.static ⟨"FamilyChartLaw", "most", "(II)I"⟩ : Cond) ∈ gw := gw_t 523 (by decide +kernel) rfl
set_option maxRecDepth 100000 in
theorem tw524 : (.code ⟨"FamilyChartLaw", "most", "(II)I"⟩ method_2_code 2 (Option.some ClassFile.FieldType.int) : Cond) ∈ gw := gw_t 524 (by decide +kernel) rfl
set_option maxRecDepth 100000 in
theorem tw525 : (.constant "FamilyChartLaw" 7 (2147483647 : Int32) : Cond) ∈ gw := gw_t 525 (by decide +kernel) rfl
set_option maxRecDepth 100000 in
theorem tw526 : (.methodLink "FamilyChartLaw" 23 ⟨"FamilyChartLaw", "cell", "([II)I"⟩ : Cond) ∈ gw := gw_t 526 (by decide +kernel) rfl
set_option maxRecDepth 100000 in
theorem tw527 : (.static ⟨"FamilyChartLaw", "cell", "([II)I"⟩ : Cond) ∈ gw := gw_t 527 (by decide +kernel) rfl
set_option maxRecDepth 100000 in
theorem tw528 : (.code ⟨"FamilyChartLaw", "cell", "([II)I"⟩ method_3_code 2 (Option.some ClassFile.FieldType.int) : Cond) ∈ gw := gw_t 528 (by decide +kernel) rfl
set_option maxRecDepth 100000 in
theorem tw529 : (.methodLink "FamilyChartLaw" 247 ⟨"FamilyChartLaw", "drawn", "([II)LFamilyChartLaw$Own;"⟩ : Cond) ∈ gw := gw_t 529 (by decide +kernel) rfl
set_option maxRecDepth 100000 in
theorem tw530 : (.static ⟨"FamilyChartLaw", "drawn", "([II)LFamilyChartLaw$Own;"⟩ : Cond) ∈ gw := gw_t 530 (by decide +kernel) rfl
set_option maxRecDepth 100000 in
theorem tw531 : (.code ⟨"FamilyChartLaw", "drawn", "([II)LFamilyChartLaw$Own;"⟩ method_8_code 11 (Option.some (ClassFile.FieldType.object "FamilyChartLaw$Own")) : Cond) ∈ gw := gw_t 531 (by decide +kernel) rfl
set_option maxRecDepth 100000 in
theorem tw532 : (.classLink "FamilyChartLaw" 20 "FamilyChartLaw$Own" : Cond) ∈ gw := gw_t 532 (by decide +kernel) rfl
set_option maxRecDepth 100000 in
theorem tw533 : (.instantiable "FamilyChartLaw$Own" 12 : Cond) ∈ gw := gw_t 533 (by decide +kernel) rfl
set_option maxRecDepth 100000 in
theorem tw535 : (.instanceMethod ⟨"FamilyChartLaw$Own", "<init>", "()V"⟩ : Cond) ∈ gw := gw_t 535 (by decide +kernel) rfl
set_option maxRecDepth 100000 in
theorem tw536 : (.code ⟨"FamilyChartLaw$Own", "<init>", "()V"⟩ prog_12_method_1_code 1 (Option.none : Option ClassFile.FieldType) : Cond) ∈ gw := gw_t 536 (by decide +kernel) rfl
set_option maxRecDepth 100000 in
theorem tw537 : (.methodLink "FamilyChartLaw$Own" 1 ⟨"java/lang/Object", "<init>", "()V"⟩ : Cond) ∈ gw := gw_t 537 (by decide +kernel) rfl
set_option maxRecDepth 100000 in
theorem tw538 : (.classLink "FamilyChartLaw$Own" 19 "[I" : Cond) ∈ gw := gw_t 538 (by decide +kernel) rfl
set_option maxRecDepth 100000 in
theorem tw540 : (.classLink "FamilyChartLaw$Own" 33 "[[J" : Cond) ∈ gw := gw_t 540 (by decide +kernel) rfl
set_option maxRecDepth 100000 in
theorem tw543 : (.fieldLink "FamilyChartLaw$Own" 42 "FamilyChartLaw$Own" "persons" "I" : Cond) ∈ gw := gw_t 543 (by decide +kernel) rfl
set_option maxRecDepth 100000 in
theorem tw545 : (.fieldLink "FamilyChartLaw$Own" 46 "FamilyChartLaw$Own" "unions" "I" : Cond) ∈ gw := gw_t 545 (by decide +kernel) rfl
set_option maxRecDepth 100000 in
theorem tw546 : (.fieldLink "FamilyChartLaw$Own" 7 "FamilyChartLaw$Own" "year" "[I" : Cond) ∈ gw := gw_t 546 (by decide +kernel) rfl
set_option maxRecDepth 100000 in
theorem tw548 : (.fieldLink "FamilyChartLaw$Own" 13 "FamilyChartLaw$Own" "parents" "[I" : Cond) ∈ gw := gw_t 548 (by decide +kernel) rfl
set_option maxRecDepth 100000 in
theorem tw550 : (.fieldLink "FamilyChartLaw$Own" 16 "FamilyChartLaw$Own" "letters" "[I" : Cond) ∈ gw := gw_t 550 (by decide +kernel) rfl
set_option maxRecDepth 100000 in
theorem tw552 : (.fieldLink "FamilyChartLaw$Own" 20 "FamilyChartLaw$Own" "union" "[[I" : Cond) ∈ gw := gw_t 552 (by decide +kernel) rfl
set_option maxRecDepth 100000 in
theorem tw554 : (.fieldLink "FamilyChartLaw$Own" 24 "FamilyChartLaw$Own" "order" "[[I" : Cond) ∈ gw := gw_t 554 (by decide +kernel) rfl
set_option maxRecDepth 100000 in
theorem tw556 : (.fieldLink "FamilyChartLaw$Own" 53 "FamilyChartLaw$Own" "rows" "I" : Cond) ∈ gw := gw_t 556 (by decide +kernel) rfl
set_option maxRecDepth 100000 in
theorem tw558 : (.fieldLink "FamilyChartLaw$Own" 27 "FamilyChartLaw$Own" "gens" "[I" : Cond) ∈ gw := gw_t 558 (by decide +kernel) rfl
set_option maxRecDepth 100000 in
theorem tw559 : (.fieldLink "FamilyChartLaw$Own" 30 "FamilyChartLaw$Own" "levels" "[I" : Cond) ∈ gw := gw_t 559 (by decide +kernel) rfl
set_option maxRecDepth 100000 in
theorem tw560 : (.fieldLink "FamilyChartLaw$Own" 35 "FamilyChartLaw$Own" "kins" "[[J" : Cond) ∈ gw := gw_t 560 (by decide +kernel) rfl
set_option maxRecDepth 100000 in
theorem tw561 : (.fieldLink "FamilyChartLaw$Own" 38 "FamilyChartLaw$Own" "col" "[I" : Cond) ∈ gw := gw_t 561 (by decide +kernel) rfl
set_option maxRecDepth 100000 in
theorem tw587 : (.methodLink "FamilyChartLaw" 45 ⟨"FamilyChartLaw", "known", "(LFamilyChartLaw$Own;II)Z"⟩ : Cond) ∈ gw := gw_t 587 (by decide +kernel) rfl
set_option maxRecDepth 100000 in
theorem tw588 : (.static ⟨"FamilyChartLaw", "known", "(LFamilyChartLaw$Own;II)Z"⟩ : Cond) ∈ gw := gw_t 588 (by decide +kernel) rfl
set_option maxRecDepth 100000 in
theorem tw589 : (.code ⟨"FamilyChartLaw", "known", "(LFamilyChartLaw$Own;II)Z"⟩ method_9_code 4 (Option.some ClassFile.FieldType.boolean) : Cond) ∈ gw := gw_t 589 (by decide +kernel) rfl
set_option maxRecDepth 100000 in
theorem tw592 : (.instanceMethod ⟨"FamilyChartLaw$Own", "in", "(II)Z"⟩ : Cond) ∈ gw := gw_t 592 (by decide +kernel) rfl
set_option maxRecDepth 100000 in
theorem tw593 : (.code ⟨"FamilyChartLaw$Own", "in", "(II)Z"⟩ prog_12_method_8_code 3 (Option.some ClassFile.FieldType.boolean) : Cond) ∈ gw := gw_t 593 (by decide +kernel) rfl
set_option maxRecDepth 100000 in
theorem tw594 : (.methodLink "FamilyChartLaw" 56 ⟨"FamilyChartLaw", "can", "(LFamilyChartLaw$Own;II)Z"⟩ : Cond) ∈ gw := gw_t 594 (by decide +kernel) rfl
set_option maxRecDepth 100000 in
theorem tw595 : (.static ⟨"FamilyChartLaw", "can", "(LFamilyChartLaw$Own;II)Z"⟩ : Cond) ∈ gw := gw_t 595 (by decide +kernel) rfl
set_option maxRecDepth 100000 in
theorem tw596 : (.code ⟨"FamilyChartLaw", "can", "(LFamilyChartLaw$Own;II)Z"⟩ method_10_code 3 (Option.some ClassFile.FieldType.boolean) : Cond) ∈ gw := gw_t 596 (by decide +kernel) rfl
set_option maxRecDepth 100000 in
theorem tw599 : (.instanceMethod ⟨"FamilyChartLaw$Own", "up", "(I)I"⟩ : Cond) ∈ gw := gw_t 599 (by decide +kernel) rfl
set_option maxRecDepth 100000 in
theorem tw600 : (.code ⟨"FamilyChartLaw$Own", "up", "(I)I"⟩ prog_12_method_6_code 3 (Option.some ClassFile.FieldType.int) : Cond) ∈ gw := gw_t 600 (by decide +kernel) rfl
set_option maxRecDepth 100000 in
theorem tw601 : (.methodLink "FamilyChartLaw$Own" 69 ⟨"FamilyChartLaw$Own", "up", "(I)I"⟩ : Cond) ∈ gw := gw_t 601 (by decide +kernel) rfl
set_option maxRecDepth 100000 in
theorem tw604 : (.instanceMethod ⟨"FamilyChartLaw$Own", "plain", "()V"⟩ : Cond) ∈ gw := gw_t 604 (by decide +kernel) rfl
set_option maxRecDepth 100000 in
theorem tw605 : (.code ⟨"FamilyChartLaw$Own", "plain", "()V"⟩ prog_12_method_10_code 5 (Option.none : Option ClassFile.FieldType) : Cond) ∈ gw := gw_t 605 (by decide +kernel) rfl
set_option maxRecDepth 100000 in
theorem tw606 : (.methodLink "FamilyChartLaw$Own" 59 ⟨"FamilyChartLaw$Own", "finds", "(I)I"⟩ : Cond) ∈ gw := gw_t 606 (by decide +kernel) rfl
set_option maxRecDepth 100000 in
theorem tw608 : (.instanceMethod ⟨"FamilyChartLaw$Own", "finds", "(I)I"⟩ : Cond) ∈ gw := gw_t 608 (by decide +kernel) rfl
set_option maxRecDepth 100000 in
theorem tw609 : (.code ⟨"FamilyChartLaw$Own", "finds", "(I)I"⟩ prog_12_method_5_code 2 (Option.some ClassFile.FieldType.int) : Cond) ∈ gw := gw_t 609 (by decide +kernel) rfl
set_option maxRecDepth 100000 in
theorem tw610 : (.methodLink "FamilyChartLaw$Own" 63 ⟨"java/lang/Math", "max", "(II)I"⟩ : Cond) ∈ gw := gw_t 610 (by decide +kernel) rfl
set_option maxRecDepth 100000 in
theorem tw611 : (.constantLong "FamilyChartLaw$Own" 78 (-1 : Int64) : Cond) ∈ gw := gw_t 611 (by decide +kernel) rfl
set_option maxRecDepth 100000 in
theorem tw612 : (.methodLink "FamilyChartLaw$Own" 75 ⟨"FamilyChartLaw$Own", "gen", "(I)I"⟩ : Cond) ∈ gw := gw_t 612 (by decide +kernel) rfl
set_option maxRecDepth 100000 in
theorem tw614 : (.instanceMethod ⟨"FamilyChartLaw$Own", "gen", "(I)I"⟩ : Cond) ∈ gw := gw_t 614 (by decide +kernel) rfl
set_option maxRecDepth 100000 in
theorem tw615 : (.code ⟨"FamilyChartLaw$Own", "gen", "(I)I"⟩ prog_12_method_3_code 2 (Option.some ClassFile.FieldType.int) : Cond) ∈ gw := gw_t 615 (by decide +kernel) rfl
set_option maxRecDepth 100000 in
theorem tw616 : (.methodLink "FamilyChartLaw$Own" 72 ⟨"FamilyChartLaw$Own", "level", "(I)I"⟩ : Cond) ∈ gw := gw_t 616 (by decide +kernel) rfl
set_option maxRecDepth 100000 in
theorem tw618 : (.instanceMethod ⟨"FamilyChartLaw$Own", "level", "(I)I"⟩ : Cond) ∈ gw := gw_t 618 (by decide +kernel) rfl
set_option maxRecDepth 100000 in
theorem tw619 : (.code ⟨"FamilyChartLaw$Own", "level", "(I)I"⟩ prog_12_method_4_code 2 (Option.some ClassFile.FieldType.int) : Cond) ∈ gw := gw_t 619 (by decide +kernel) rfl
set_option maxRecDepth 100000 in
theorem tw620 : (.methodLink "FamilyChartLaw$Own" 80 ⟨"FamilyChartLaw$Own", "less", "(I)I"⟩ : Cond) ∈ gw := gw_t 620 (by decide +kernel) rfl
set_option maxRecDepth 100000 in
theorem tw622 : (.instanceMethod ⟨"FamilyChartLaw$Own", "less", "(I)I"⟩ : Cond) ∈ gw := gw_t 622 (by decide +kernel) rfl
set_option maxRecDepth 100000 in
theorem tw623 : (.code ⟨"FamilyChartLaw$Own", "less", "(I)I"⟩ prog_12_method_9_code 3 (Option.some ClassFile.FieldType.int) : Cond) ∈ gw := gw_t 623 (by decide +kernel) rfl
set_option maxRecDepth 100000 in
theorem tw624 : (.methodLink "FamilyChartLaw" 251 ⟨"FamilyChartLaw", "tell", "(LFamilyChart;[ILFamilyChartLaw$Own;)I"⟩ : Cond) ∈ gw := gw_t 624 (by decide +kernel) rfl
set_option maxRecDepth 100000 in
theorem tw625 : (.static ⟨"FamilyChartLaw", "tell", "(LFamilyChart;[ILFamilyChartLaw$Own;)I"⟩ : Cond) ∈ gw := gw_t 625 (by decide +kernel) rfl
set_option maxRecDepth 100000 in
theorem tw626 : (.code ⟨"FamilyChartLaw", "tell", "(LFamilyChart;[ILFamilyChartLaw$Own;)I"⟩ method_14_code 5 (Option.some ClassFile.FieldType.int) : Cond) ∈ gw := gw_t 626 (by decide +kernel) rfl
set_option maxRecDepth 100000 in
theorem tw628 : (.methodLink "FamilyChartLaw" 80 ⟨"FamilyChartLaw", "word", "(LFamilyChart;[ILjava/lang/String;)V"⟩ : Cond) ∈ gw := gw_t 628 (by decide +kernel) rfl
set_option maxRecDepth 100000 in
theorem tw629 : (.static ⟨"FamilyChartLaw", "word", "(LFamilyChart;[ILjava/lang/String;)V"⟩ : Cond) ∈ gw := gw_t 629 (by decide +kernel) rfl
set_option maxRecDepth 100000 in
theorem tw630 : (.code ⟨"FamilyChartLaw", "word", "(LFamilyChart;[ILjava/lang/String;)V"⟩ method_11_code 4 (Option.none : Option ClassFile.FieldType) : Cond) ∈ gw := gw_t 630 (by decide +kernel) rfl
set_option maxRecDepth 100000 in
theorem tw631 : (.methodLink "FamilyChartLaw" 70 ⟨"java/lang/String", "length", "()I"⟩ : Cond) ∈ gw := gw_t 631 (by decide +kernel) rfl
set_option maxRecDepth 100000 in
theorem tw632 : (.instanceMethod ⟨"java/lang/String", "length", "()I"⟩ : Cond) ∈ gw := gw_t 632 (by decide +kernel) rfl
set_option maxRecDepth 100000 in
theorem tw633 : (.selects "java/lang/String" ⟨"java/lang/String", "length", "()I"⟩ ⟨"java/lang/String", "length", "()I"⟩ : Cond) ∈ gw := gw_t 633 (by decide +kernel) rfl
set_option maxRecDepth 100000 in
theorem tw634 : (.code ⟨"java/lang/String", "length", "()I"⟩ prog_22_method_54_code 1 (Option.some ClassFile.FieldType.int) : Cond) ∈ gw := gw_t 634 (by decide +kernel) rfl
set_option maxRecDepth 100000 in
theorem tw635 : (.methodLink "java/lang/String" 335 ⟨"java/lang/String", "coder", "()B"⟩ : Cond) ∈ gw := gw_t 635 (by decide +kernel) rfl
set_option maxRecDepth 100000 in
theorem tw636 : (.instanceMethod ⟨"java/lang/String", "coder", "()B"⟩ : Cond) ∈ gw := gw_t 636 (by decide +kernel) rfl
set_option maxRecDepth 100000 in
theorem tw637 : (.selects "java/lang/String" ⟨"java/lang/String", "coder", "()B"⟩ ⟨"java/lang/String", "coder", "()B"⟩ : Cond) ∈ gw := gw_t 637 (by decide +kernel) rfl
set_option maxRecDepth 100000 in
theorem tw638 : (.code ⟨"java/lang/String", "coder", "()B"⟩ prog_22_method_152_code 1 (Option.some ClassFile.FieldType.byte) : Cond) ∈ gw := gw_t 638 (by decide +kernel) rfl
set_option maxRecDepth 100000 in
theorem tw639 : (.fieldLink "java/lang/String" 38 "java/lang/String" "COMPACT_STRINGS" "Z" : Cond) ∈ gw := gw_t 639 (by decide +kernel) rfl
set_option maxRecDepth 100000 in
theorem tw641 : (.methodLink "FamilyChartLaw" 76 ⟨"java/lang/String", "charAt", "(I)C"⟩ : Cond) ∈ gw := gw_t 641 (by decide +kernel) rfl
set_option maxRecDepth 100000 in
theorem tw642 : (.instanceMethod ⟨"java/lang/String", "charAt", "(I)C"⟩ : Cond) ∈ gw := gw_t 642 (by decide +kernel) rfl
set_option maxRecDepth 100000 in
theorem tw643 : (.selects "java/lang/String" ⟨"java/lang/String", "charAt", "(I)C"⟩ ⟨"java/lang/String", "charAt", "(I)C"⟩ : Cond) ∈ gw := gw_t 643 (by decide +kernel) rfl
set_option maxRecDepth 100000 in
theorem tw644 : (.code ⟨"java/lang/String", "charAt", "(I)C"⟩ prog_22_method_56_code 2 (Option.some ClassFile.FieldType.char) : Cond) ∈ gw := gw_t 644 (by decide +kernel) rfl
set_option maxRecDepth 100000 in
theorem tw645 : (.methodLink "java/lang/String" 492 ⟨"java/lang/String", "isLatin1", "()Z"⟩ : Cond) ∈ gw := gw_t 645 (by decide +kernel) rfl
set_option maxRecDepth 100000 in
theorem tw646 : (.instanceMethod ⟨"java/lang/String", "isLatin1", "()Z"⟩ : Cond) ∈ gw := gw_t 646 (by decide +kernel) rfl
set_option maxRecDepth 100000 in
theorem tw647 : (.selects "java/lang/String" ⟨"java/lang/String", "isLatin1", "()Z"⟩ ⟨"java/lang/String", "isLatin1", "()Z"⟩ : Cond) ∈ gw := gw_t 647 (by decide +kernel) rfl
set_option maxRecDepth 100000 in
theorem tw648 : (.code ⟨"java/lang/String", "isLatin1", "()Z"⟩ prog_22_method_154_code 1 (Option.some ClassFile.FieldType.boolean) : Cond) ∈ gw := gw_t 648 (by decide +kernel) rfl
set_option maxRecDepth 100000 in
theorem tw649 : (.methodLink "java/lang/String" 495 ⟨"java/lang/StringLatin1", "charAt", "([BI)C"⟩ : Cond) ∈ gw := gw_t 649 (by decide +kernel) rfl
set_option maxRecDepth 100000 in
theorem tw650 : (.static ⟨"java/lang/StringLatin1", "charAt", "([BI)C"⟩ : Cond) ∈ gw := gw_t 650 (by decide +kernel) rfl
set_option maxRecDepth 100000 in
theorem tw651 : (.code ⟨"java/lang/StringLatin1", "charAt", "([BI)C"⟩ prog_23_method_2_code 2 (Option.some ClassFile.FieldType.char) : Cond) ∈ gw := gw_t 651 (by decide +kernel) rfl
set_option maxRecDepth 100000 in
theorem tw652 : (.methodLink "java/lang/StringLatin1" 9 ⟨"java/lang/String", "checkIndex", "(II)V"⟩ : Cond) ∈ gw := gw_t 652 (by decide +kernel) rfl
set_option maxRecDepth 100000 in
theorem tw653 : (.static ⟨"java/lang/String", "checkIndex", "(II)V"⟩ : Cond) ∈ gw := gw_t 653 (by decide +kernel) rfl
set_option maxRecDepth 100000 in
theorem tw654 : (.code ⟨"java/lang/String", "checkIndex", "(II)V"⟩ prog_22_method_155_code 2 (Option.none : Option ClassFile.FieldType) : Cond) ∈ gw := gw_t 654 (by decide +kernel) rfl
set_option maxRecDepth 100000 in
theorem tw655 : (.fieldLink "java/lang/String" 1053 "jdk/internal/util/Preconditions" "SIOOBE_FORMATTER" "Ljava/util/function/BiFunction;" : Cond) ∈ gw := gw_t 655 (by decide +kernel) rfl
set_option maxRecDepth 100000 in
theorem tw657 : (.methodLink "java/lang/String" 1059 ⟨"jdk/internal/util/Preconditions", "checkIndex", "(IILjava/util/function/BiFunction;)I"⟩ : Cond) ∈ gw := gw_t 657 (by decide +kernel) rfl
set_option maxRecDepth 100000 in
theorem tw658 : (.static ⟨"jdk/internal/util/Preconditions", "checkIndex", "(IILjava/util/function/BiFunction;)I"⟩ : Cond) ∈ gw := gw_t 658 (by decide +kernel) rfl
set_option maxRecDepth 100000 in
theorem tw659 : (.code ⟨"jdk/internal/util/Preconditions", "checkIndex", "(IILjava/util/function/BiFunction;)I"⟩ prog_29_method_11_code 3 (Option.some ClassFile.FieldType.int) : Cond) ∈ gw := gw_t 659 (by decide +kernel) rfl
set_option maxRecDepth 100000 in
theorem tw660 : (.methodLink "java/lang/String" 498 ⟨"java/lang/StringUTF16", "charAt", "([BI)C"⟩ : Cond) ∈ gw := gw_t 660 (by decide +kernel) rfl
set_option maxRecDepth 100000 in
theorem tw661 : (.static ⟨"java/lang/StringUTF16", "charAt", "([BI)C"⟩ : Cond) ∈ gw := gw_t 661 (by decide +kernel) rfl
set_option maxRecDepth 100000 in
theorem tw662 : (.code ⟨"java/lang/StringUTF16", "charAt", "([BI)C"⟩ prog_24_method_83_code 2 (Option.some ClassFile.FieldType.char) : Cond) ∈ gw := gw_t 662 (by decide +kernel) rfl
set_option maxRecDepth 100000 in
theorem tw663 : (.methodLink "java/lang/StringUTF16" 67 ⟨"java/lang/StringUTF16", "checkIndex", "(I[B)V"⟩ : Cond) ∈ gw := gw_t 663 (by decide +kernel) rfl
set_option maxRecDepth 100000 in
theorem tw664 : (.static ⟨"java/lang/StringUTF16", "checkIndex", "(I[B)V"⟩ : Cond) ∈ gw := gw_t 664 (by decide +kernel) rfl
set_option maxRecDepth 100000 in
theorem tw665 : (.code ⟨"java/lang/StringUTF16", "checkIndex", "(I[B)V"⟩ prog_24_method_91_code 2 (Option.none : Option ClassFile.FieldType) : Cond) ∈ gw := gw_t 665 (by decide +kernel) rfl
set_option maxRecDepth 100000 in
theorem tw666 : (.methodLink "java/lang/StringUTF16" 48 ⟨"java/lang/StringUTF16", "length", "([B)I"⟩ : Cond) ∈ gw := gw_t 666 (by decide +kernel) rfl
set_option maxRecDepth 100000 in
theorem tw667 : (.static ⟨"java/lang/StringUTF16", "length", "([B)I"⟩ : Cond) ∈ gw := gw_t 667 (by decide +kernel) rfl
set_option maxRecDepth 100000 in
theorem tw668 : (.code ⟨"java/lang/StringUTF16", "length", "([B)I"⟩ prog_24_method_6_code 1 (Option.some ClassFile.FieldType.int) : Cond) ∈ gw := gw_t 668 (by decide +kernel) rfl
set_option maxRecDepth 100000 in
theorem tw669 : (.methodLink "java/lang/StringUTF16" 414 ⟨"java/lang/String", "checkIndex", "(II)V"⟩ : Cond) ∈ gw := gw_t 669 (by decide +kernel) rfl
set_option maxRecDepth 100000 in
theorem tw670 : (.methodLink "java/lang/StringUTF16" 71 ⟨"java/lang/StringUTF16", "getChar", "([BI)C"⟩ : Cond) ∈ gw := gw_t 670 (by decide +kernel) rfl
set_option maxRecDepth 100000 in
theorem tw671 : (.static ⟨"java/lang/StringUTF16", "getChar", "([BI)C"⟩ : Cond) ∈ gw := gw_t 671 (by decide +kernel) rfl
set_option maxRecDepth 100000 in
theorem tw672 : (.code ⟨"java/lang/StringUTF16", "getChar", "([BI)C"⟩ prog_24_method_5_code 2 (Option.some ClassFile.FieldType.char) : Cond) ∈ gw := gw_t 672 (by decide +kernel) rfl
set_option maxRecDepth 100000 in
theorem tw673 : (.fieldLink "java/lang/StringUTF16" 44 "java/lang/StringUTF16" "$assertionsDisabled" "Z" : Cond) ∈ gw := gw_t 673 (by decide +kernel) rfl
set_option maxRecDepth 100000 in
theorem tw675 : (.fieldLink "java/lang/StringUTF16" 59 "java/lang/StringUTF16" "HI_BYTE_SHIFT" "I" : Cond) ∈ gw := gw_t 675 (by decide +kernel) rfl
set_option maxRecDepth 100000 in
theorem tw677 : (.fieldLink "java/lang/StringUTF16" 63 "java/lang/StringUTF16" "LO_BYTE_SHIFT" "I" : Cond) ∈ gw := gw_t 677 (by decide +kernel) rfl
set_option maxRecDepth 100000 in
theorem tw679 : (.methodLink "FamilyChartLaw" 14 ⟨"FamilyChartLaw", "add", "(LFamilyChart;[II)V"⟩ : Cond) ∈ gw := gw_t 679 (by decide +kernel) rfl
set_option maxRecDepth 100000 in
theorem tw680 : (.static ⟨"FamilyChartLaw", "add", "(LFamilyChart;[II)V"⟩ : Cond) ∈ gw := gw_t 680 (by decide +kernel) rfl
set_option maxRecDepth 100000 in
theorem tw681 : (.code ⟨"FamilyChartLaw", "add", "(LFamilyChart;[II)V"⟩ method_4_code 4 (Option.none : Option ClassFile.FieldType) : Cond) ∈ gw := gw_t 681 (by decide +kernel) rfl
set_option maxRecDepth 100000 in
theorem tw682 : (.methodLink "FamilyChartLaw" 8 ⟨"FamilyChart", "feed", "(IIIII)I"⟩ : Cond) ∈ gw := gw_t 682 (by decide +kernel) rfl
set_option maxRecDepth 100000 in
theorem tw683 : (.instanceMethod ⟨"FamilyChart", "feed", "(IIIII)I"⟩ : Cond) ∈ gw := gw_t 683 (by decide +kernel) rfl
set_option maxRecDepth 100000 in
theorem tw684 : (.selects "FamilyChart" ⟨"FamilyChart", "feed", "(IIIII)I"⟩ ⟨"FamilyChart", "feed", "(IIIII)I"⟩ : Cond) ∈ gw := gw_t 684 (by decide +kernel) rfl
set_option maxRecDepth 100000 in
theorem tw685 : (.code ⟨"FamilyChart", "feed", "(IIIII)I"⟩ prog_1_method_2_code 6 (Option.some ClassFile.FieldType.int) : Cond) ∈ gw := gw_t 685 (by decide +kernel) rfl
set_option maxRecDepth 100000 in
theorem tw686 : (.methodLink "FamilyChart" 82 ⟨"FamilyChart$Input", "hasRoom", "()Z"⟩ : Cond) ∈ gw := gw_t 686 (by decide +kernel) rfl
set_option maxRecDepth 100000 in
theorem tw687 : (.instanceMethod ⟨"FamilyChart$Input", "hasRoom", "()Z"⟩ : Cond) ∈ gw := gw_t 687 (by decide +kernel) rfl
set_option maxRecDepth 100000 in
theorem tw688 : (.selects "FamilyChart$Input" ⟨"FamilyChart$Input", "hasRoom", "()Z"⟩ ⟨"FamilyChart$Input", "hasRoom", "()Z"⟩ : Cond) ∈ gw := gw_t 688 (by decide +kernel) rfl
set_option maxRecDepth 100000 in
theorem tw689 : (.code ⟨"FamilyChart$Input", "hasRoom", "()Z"⟩ prog_5_method_2_code 1 (Option.some ClassFile.FieldType.boolean) : Cond) ∈ gw := gw_t 689 (by decide +kernel) rfl
set_option maxRecDepth 100000 in
theorem tw690 : (.methodLink "FamilyChart" 86 ⟨"FamilyChart$Input", "append", "(I)V"⟩ : Cond) ∈ gw := gw_t 690 (by decide +kernel) rfl
set_option maxRecDepth 100000 in
theorem tw691 : (.instanceMethod ⟨"FamilyChart$Input", "append", "(I)V"⟩ : Cond) ∈ gw := gw_t 691 (by decide +kernel) rfl
set_option maxRecDepth 100000 in
theorem tw692 : (.selects "FamilyChart$Input" ⟨"FamilyChart$Input", "append", "(I)V"⟩ ⟨"FamilyChart$Input", "append", "(I)V"⟩ : Cond) ∈ gw := gw_t 692 (by decide +kernel) rfl
set_option maxRecDepth 100000 in
theorem tw693 : (.code ⟨"FamilyChart$Input", "append", "(I)V"⟩ prog_5_method_3_code 3 (Option.none : Option ClassFile.FieldType) : Cond) ∈ gw := gw_t 693 (by decide +kernel) rfl
set_option maxRecDepth 100000 in
theorem tw695 : (.methodLink "FamilyChartLaw" 93 ⟨"FamilyChartLaw", "name", "(LFamilyChart;[ILFamilyChartLaw$Own;I)V"⟩ : Cond) ∈ gw := gw_t 695 (by decide +kernel) rfl
set_option maxRecDepth 100000 in
theorem tw696 : (.static ⟨"FamilyChartLaw", "name", "(LFamilyChart;[ILFamilyChartLaw$Own;I)V"⟩ : Cond) ∈ gw := gw_t 696 (by decide +kernel) rfl
set_option maxRecDepth 100000 in
theorem tw697 : (.code ⟨"FamilyChartLaw", "name", "(LFamilyChart;[ILFamilyChartLaw$Own;I)V"⟩ method_13_code 5 (Option.none : Option ClassFile.FieldType) : Cond) ∈ gw := gw_t 697 (by decide +kernel) rfl
set_option maxRecDepth 100000 in
theorem tw700 : (.instanceMethod ⟨"FamilyChartLaw$Own", "name", "(II)C"⟩ : Cond) ∈ gw := gw_t 700 (by decide +kernel) rfl
set_option maxRecDepth 100000 in
theorem tw701 : (.code ⟨"FamilyChartLaw$Own", "name", "(II)C"⟩ prog_12_method_26_code 3 (Option.some ClassFile.FieldType.char) : Cond) ∈ gw := gw_t 701 (by decide +kernel) rfl
set_option maxRecDepth 100000 in
theorem tw703 : (.methodLink "FamilyChartLaw" 98 ⟨"FamilyChartLaw", "with", "(LFamilyChart;[ILjava/lang/String;I)V"⟩ : Cond) ∈ gw := gw_t 703 (by decide +kernel) rfl
set_option maxRecDepth 100000 in
theorem tw704 : (.static ⟨"FamilyChartLaw", "with", "(LFamilyChart;[ILjava/lang/String;I)V"⟩ : Cond) ∈ gw := gw_t 704 (by decide +kernel) rfl
set_option maxRecDepth 100000 in
theorem tw705 : (.code ⟨"FamilyChartLaw", "with", "(LFamilyChart;[ILjava/lang/String;I)V"⟩ method_12_code 4 (Option.none : Option ClassFile.FieldType) : Cond) ∈ gw := gw_t 705 (by decide +kernel) rfl
set_option maxRecDepth 100000 in
theorem tw706 : (.methodLink "FamilyChartLaw" 84 ⟨"FamilyChartLaw", "number", "(LFamilyChart;[II)V"⟩ : Cond) ∈ gw := gw_t 706 (by decide +kernel) rfl
set_option maxRecDepth 100000 in
theorem tw707 : (.static ⟨"FamilyChartLaw", "number", "(LFamilyChart;[II)V"⟩ : Cond) ∈ gw := gw_t 707 (by decide +kernel) rfl
set_option maxRecDepth 100000 in
theorem tw708 : (.code ⟨"FamilyChartLaw", "number", "(LFamilyChart;[II)V"⟩ method_6_code 4 (Option.none : Option ClassFile.FieldType) : Cond) ∈ gw := gw_t 708 (by decide +kernel) rfl
set_option maxRecDepth 100000 in
theorem tw710 : (.methodLink "FamilyChartLaw" 104 ⟨"FamilyChartLaw", "end", "(LFamilyChart;[I)I"⟩ : Cond) ∈ gw := gw_t 710 (by decide +kernel) rfl
set_option maxRecDepth 100000 in
theorem tw711 : (.static ⟨"FamilyChartLaw", "end", "(LFamilyChart;[I)I"⟩ : Cond) ∈ gw := gw_t 711 (by decide +kernel) rfl
set_option maxRecDepth 100000 in
theorem tw712 : (.code ⟨"FamilyChartLaw", "end", "(LFamilyChart;[I)I"⟩ method_7_code 3 (Option.some ClassFile.FieldType.int) : Cond) ∈ gw := gw_t 712 (by decide +kernel) rfl
set_option maxRecDepth 100000 in
theorem tw713 : (.methodLink "FamilyChartLaw" 108 ⟨"FamilyChart", "load", "(I)I"⟩ : Cond) ∈ gw := gw_t 713 (by decide +kernel) rfl
set_option maxRecDepth 100000 in
theorem tw714 : (.instanceMethod ⟨"FamilyChart", "load", "(I)I"⟩ : Cond) ∈ gw := gw_t 714 (by decide +kernel) rfl
set_option maxRecDepth 100000 in
theorem tw715 : (.selects "FamilyChart" ⟨"FamilyChart", "load", "(I)I"⟩ ⟨"FamilyChart", "load", "(I)I"⟩ : Cond) ∈ gw := gw_t 715 (by decide +kernel) rfl
set_option maxRecDepth 100000 in
theorem tw716 : (.code ⟨"FamilyChart", "load", "(I)I"⟩ prog_1_method_3_code 3 (Option.some ClassFile.FieldType.int) : Cond) ∈ gw := gw_t 716 (by decide +kernel) rfl
set_option maxRecDepth 100000 in
theorem tw717 : (.classLink "FamilyChart" 94 "java/lang/IllegalArgumentException" : Cond) ∈ gw := gw_t 717 (by decide +kernel) rfl
set_option maxRecDepth 100000 in
theorem tw718 : (.instantiable "java/lang/IllegalArgumentException" 6 : Cond) ∈ gw := gw_t 718 (by decide +kernel) rfl
set_option maxRecDepth 100000 in
theorem tw726 : (.selects "java/lang/IllegalArgumentException" ⟨"java/lang/Throwable", "fillInStackTrace", "(I)Ljava/lang/Throwable;"⟩ ⟨"java/lang/Throwable", "fillInStackTrace", "(I)Ljava/lang/Throwable;"⟩ : Cond) ∈ gw := gw_t 726 (by decide +kernel) rfl
set_option maxRecDepth 100000 in
theorem tw727 : (.selects "java/lang/IllegalArgumentException" ⟨"java/lang/Throwable", "fillInStackTrace", "()Ljava/lang/Throwable;"⟩ ⟨"java/lang/Throwable", "fillInStackTrace", "()Ljava/lang/Throwable;"⟩ : Cond) ∈ gw := gw_t 727 (by decide +kernel) rfl
set_option maxRecDepth 100000 in
theorem tw738 : (.fieldLink "java/lang/Throwable" 198 "java/lang/Throwable" "backtrace" "Ljava/lang/Object;" : Cond) ∈ gw := gw_t 738 (by decide +kernel) rfl
set_option maxRecDepth 100000 in
theorem tw740 : (.instanceMethod ⟨"java/lang/Throwable", "<init>", "()V"⟩ : Cond) ∈ gw := gw_t 740 (by decide +kernel) rfl
set_option maxRecDepth 100000 in
theorem tw741 : (.code ⟨"java/lang/Throwable", "<init>", "()V"⟩ prog_25_method_1_code 1 (Option.none : Option ClassFile.FieldType) : Cond) ∈ gw := gw_t 741 (by decide +kernel) rfl
set_option maxRecDepth 100000 in
theorem tw742 : (.methodLink "java/lang/Throwable" 1 ⟨"java/lang/Object", "<init>", "()V"⟩ : Cond) ∈ gw := gw_t 742 (by decide +kernel) rfl
set_option maxRecDepth 100000 in
theorem tw743 : (.fieldLink "java/lang/Throwable" 13 "java/lang/Throwable" "UNASSIGNED_STACK" "[Ljava/lang/StackTraceElement;" : Cond) ∈ gw := gw_t 743 (by decide +kernel) rfl
set_option maxRecDepth 100000 in
theorem tw745 : (.fieldLink "java/lang/Throwable" 20 "java/lang/Throwable" "SUPPRESSED_SENTINEL" "Ljava/util/List;" : Cond) ∈ gw := gw_t 745 (by decide +kernel) rfl
set_option maxRecDepth 100000 in
theorem tw747 : (.methodLink "java/lang/Throwable" 27 ⟨"java/lang/Throwable", "fillInStackTrace", "()Ljava/lang/Throwable;"⟩ : Cond) ∈ gw := gw_t 747 (by decide +kernel) rfl
set_option maxRecDepth 100000 in
theorem tw748 : (.instanceMethod ⟨"java/lang/Throwable", "fillInStackTrace", "()Ljava/lang/Throwable;"⟩ : Cond) ∈ gw := gw_t 748 (by decide +kernel) rfl
set_option maxRecDepth 100000 in
theorem tw750 : (.selects "java/util/NoSuchElementException" ⟨"java/lang/Throwable", "fillInStackTrace", "()Ljava/lang/Throwable;"⟩ ⟨"java/lang/Throwable", "fillInStackTrace", "()Ljava/lang/Throwable;"⟩ : Cond) ∈ gw := gw_t 750 (by decide +kernel) rfl
set_option maxRecDepth 100000 in
theorem tw752 : (.methodLink "java/lang/Throwable" 202 ⟨"java/lang/Throwable", "fillInStackTrace", "(I)Ljava/lang/Throwable;"⟩ : Cond) ∈ gw := gw_t 752 (by decide +kernel) rfl
set_option maxRecDepth 100000 in
theorem tw754 : (.instanceMethod ⟨"java/lang/Throwable", "fillInStackTrace", "(I)Ljava/lang/Throwable;"⟩ : Cond) ∈ gw := gw_t 754 (by decide +kernel) rfl
set_option maxRecDepth 100000 in
theorem tw755 : (.instantiable "java/lang/Throwable" 6 : Cond) ∈ gw := gw_t 755 (by decide +kernel) rfl
set_option maxRecDepth 100000 in
theorem tw758 : (.methodLink "FamilyChart" 98 ⟨"java/lang/IllegalArgumentException", "<init>", "(Ljava/lang/String;)V"⟩ : Cond) ∈ gw := gw_t 758 (by decide +kernel) rfl
set_option maxRecDepth 100000 in
theorem tw759 : (.instanceMethod ⟨"java/lang/IllegalArgumentException", "<init>", "(Ljava/lang/String;)V"⟩ : Cond) ∈ gw := gw_t 759 (by decide +kernel) rfl
set_option maxRecDepth 100000 in
theorem tw760 : (.code ⟨"java/lang/IllegalArgumentException", "<init>", "(Ljava/lang/String;)V"⟩ prog_18_method_2_code 2 (Option.none : Option ClassFile.FieldType) : Cond) ∈ gw := gw_t 760 (by decide +kernel) rfl
set_option maxRecDepth 100000 in
theorem tw761 : (.methodLink "java/lang/IllegalArgumentException" 7 ⟨"java/lang/RuntimeException", "<init>", "(Ljava/lang/String;)V"⟩ : Cond) ∈ gw := gw_t 761 (by decide +kernel) rfl
set_option maxRecDepth 100000 in
theorem tw762 : (.instanceMethod ⟨"java/lang/RuntimeException", "<init>", "(Ljava/lang/String;)V"⟩ : Cond) ∈ gw := gw_t 762 (by decide +kernel) rfl
set_option maxRecDepth 100000 in
theorem tw763 : (.code ⟨"java/lang/RuntimeException", "<init>", "(Ljava/lang/String;)V"⟩ prog_21_method_2_code 2 (Option.none : Option ClassFile.FieldType) : Cond) ∈ gw := gw_t 763 (by decide +kernel) rfl
set_option maxRecDepth 100000 in
theorem tw764 : (.methodLink "java/lang/RuntimeException" 7 ⟨"java/lang/Exception", "<init>", "(Ljava/lang/String;)V"⟩ : Cond) ∈ gw := gw_t 764 (by decide +kernel) rfl
set_option maxRecDepth 100000 in
theorem tw765 : (.instanceMethod ⟨"java/lang/Exception", "<init>", "(Ljava/lang/String;)V"⟩ : Cond) ∈ gw := gw_t 765 (by decide +kernel) rfl
set_option maxRecDepth 100000 in
theorem tw766 : (.code ⟨"java/lang/Exception", "<init>", "(Ljava/lang/String;)V"⟩ prog_17_method_2_code 2 (Option.none : Option ClassFile.FieldType) : Cond) ∈ gw := gw_t 766 (by decide +kernel) rfl
set_option maxRecDepth 100000 in
theorem tw767 : (.methodLink "java/lang/Exception" 7 ⟨"java/lang/Throwable", "<init>", "(Ljava/lang/String;)V"⟩ : Cond) ∈ gw := gw_t 767 (by decide +kernel) rfl
set_option maxRecDepth 100000 in
theorem tw768 : (.instanceMethod ⟨"java/lang/Throwable", "<init>", "(Ljava/lang/String;)V"⟩ : Cond) ∈ gw := gw_t 768 (by decide +kernel) rfl
set_option maxRecDepth 100000 in
theorem tw769 : (.code ⟨"java/lang/Throwable", "<init>", "(Ljava/lang/String;)V"⟩ prog_25_method_2_code 2 (Option.none : Option ClassFile.FieldType) : Cond) ∈ gw := gw_t 769 (by decide +kernel) rfl
set_option maxRecDepth 100000 in
theorem tw771 : (.fieldLink "java/lang/Throwable" 31 "java/lang/Throwable" "detailMessage" "Ljava/lang/String;" : Cond) ∈ gw := gw_t 771 (by decide +kernel) rfl
set_option maxRecDepth 100000 in
theorem tw772 : (.fieldLink "java/lang/Throwable" 7 "java/lang/Throwable" "cause" "Ljava/lang/Throwable;" : Cond) ∈ gw := gw_t 772 (by decide +kernel) rfl
set_option maxRecDepth 100000 in
theorem tw773 : (.fieldLink "java/lang/Throwable" 17 "java/lang/Throwable" "stackTrace" "[Ljava/lang/StackTraceElement;" : Cond) ∈ gw := gw_t 773 (by decide +kernel) rfl
set_option maxRecDepth 100000 in
theorem tw774 : (.fieldLink "java/lang/Throwable" 24 "java/lang/Throwable" "suppressedExceptions" "Ljava/util/List;" : Cond) ∈ gw := gw_t 774 (by decide +kernel) rfl
set_option maxRecDepth 100000 in
theorem tw783 : (.arrayClass ClassFile.FieldType.byte : Cond) ∈ gw := gw_t 783 (by decide +kernel) rfl
set_option maxRecDepth 100000 in
theorem tw784 : (.methodLink "FamilyChart" 101 ⟨"FamilyChart$TextReader", "read", "(I)I"⟩ : Cond) ∈ gw := gw_t 784 (by decide +kernel) rfl
set_option maxRecDepth 100000 in
theorem tw785 : (.instanceMethod ⟨"FamilyChart$TextReader", "read", "(I)I"⟩ : Cond) ∈ gw := gw_t 785 (by decide +kernel) rfl
set_option maxRecDepth 100000 in
theorem tw786 : (.selects "FamilyChart$TextReader" ⟨"FamilyChart$TextReader", "read", "(I)I"⟩ ⟨"FamilyChart$TextReader", "read", "(I)I"⟩ : Cond) ∈ gw := gw_t 786 (by decide +kernel) rfl
set_option maxRecDepth 100000 in
theorem tw787 : (.code ⟨"FamilyChart$TextReader", "read", "(I)I"⟩ prog_10_method_2_code 3 (Option.some ClassFile.FieldType.int) : Cond) ∈ gw := gw_t 787 (by decide +kernel) rfl
set_option maxRecDepth 100000 in
theorem tw788 : (.methodLink "FamilyChart$TextReader" 22 ⟨"FamilyChart$Family", "clear", "()V"⟩ : Cond) ∈ gw := gw_t 788 (by decide +kernel) rfl
set_option maxRecDepth 100000 in
theorem tw789 : (.instanceMethod ⟨"FamilyChart$Family", "clear", "()V"⟩ : Cond) ∈ gw := gw_t 789 (by decide +kernel) rfl
set_option maxRecDepth 100000 in
theorem tw790 : (.selects "FamilyChart$Family" ⟨"FamilyChart$Family", "clear", "()V"⟩ ⟨"FamilyChart$Family", "clear", "()V"⟩ : Cond) ∈ gw := gw_t 790 (by decide +kernel) rfl
set_option maxRecDepth 100000 in
theorem tw791 : (.code ⟨"FamilyChart$Family", "clear", "()V"⟩ prog_3_method_4_code 1 (Option.none : Option ClassFile.FieldType) : Cond) ∈ gw := gw_t 791 (by decide +kernel) rfl
set_option maxRecDepth 100000 in
theorem tw792 : (.methodLink "FamilyChart$Family" 52 ⟨"FamilyChart$Family", "refresh", "()V"⟩ : Cond) ∈ gw := gw_t 792 (by decide +kernel) rfl
set_option maxRecDepth 100000 in
theorem tw793 : (.methodLink "FamilyChart$TextReader" 25 ⟨"FamilyChart$Input", "open", "(I)V"⟩ : Cond) ∈ gw := gw_t 793 (by decide +kernel) rfl
set_option maxRecDepth 100000 in
theorem tw794 : (.instanceMethod ⟨"FamilyChart$Input", "open", "(I)V"⟩ : Cond) ∈ gw := gw_t 794 (by decide +kernel) rfl
set_option maxRecDepth 100000 in
theorem tw795 : (.selects "FamilyChart$Input" ⟨"FamilyChart$Input", "open", "(I)V"⟩ ⟨"FamilyChart$Input", "open", "(I)V"⟩ : Cond) ∈ gw := gw_t 795 (by decide +kernel) rfl
set_option maxRecDepth 100000 in
theorem tw796 : (.code ⟨"FamilyChart$Input", "open", "(I)V"⟩ prog_5_method_4_code 2 (Option.none : Option ClassFile.FieldType) : Cond) ∈ gw := gw_t 796 (by decide +kernel) rfl
set_option maxRecDepth 100000 in
theorem tw797 : (.methodLink "FamilyChart$Input" 35 ⟨"FamilyChart$Input", "advance", "()V"⟩ : Cond) ∈ gw := gw_t 797 (by decide +kernel) rfl
set_option maxRecDepth 100000 in
theorem tw798 : (.instanceMethod ⟨"FamilyChart$Input", "advance", "()V"⟩ : Cond) ∈ gw := gw_t 798 (by decide +kernel) rfl
set_option maxRecDepth 100000 in
theorem tw799 : (.selects "FamilyChart$Input" ⟨"FamilyChart$Input", "advance", "()V"⟩ ⟨"FamilyChart$Input", "advance", "()V"⟩ : Cond) ∈ gw := gw_t 799 (by decide +kernel) rfl
set_option maxRecDepth 100000 in
theorem tw800 : (.code ⟨"FamilyChart$Input", "advance", "()V"⟩ prog_5_method_5_code 1 (Option.none : Option ClassFile.FieldType) : Cond) ∈ gw := gw_t 800 (by decide +kernel) rfl
set_option maxRecDepth 100000 in
theorem tw801 : (.methodLink "FamilyChart$Input" 38 ⟨"FamilyChart$Input", "isFine", "()Z"⟩ : Cond) ∈ gw := gw_t 801 (by decide +kernel) rfl
set_option maxRecDepth 100000 in
theorem tw802 : (.instanceMethod ⟨"FamilyChart$Input", "isFine", "()Z"⟩ : Cond) ∈ gw := gw_t 802 (by decide +kernel) rfl
set_option maxRecDepth 100000 in
theorem tw803 : (.selects "FamilyChart$Input" ⟨"FamilyChart$Input", "isFine", "()Z"⟩ ⟨"FamilyChart$Input", "isFine", "()Z"⟩ : Cond) ∈ gw := gw_t 803 (by decide +kernel) rfl
set_option maxRecDepth 100000 in
theorem tw804 : (.code ⟨"FamilyChart$Input", "isFine", "()Z"⟩ prog_5_method_7_code 1 (Option.some ClassFile.FieldType.boolean) : Cond) ∈ gw := gw_t 804 (by decide +kernel) rfl
set_option maxRecDepth 100000 in
theorem tw806 : (.methodLink "FamilyChart$Input" 49 ⟨"FamilyChart$Input", "kindOf", "(I)I"⟩ : Cond) ∈ gw := gw_t 806 (by decide +kernel) rfl
set_option maxRecDepth 100000 in
theorem tw807 : (.static ⟨"FamilyChart$Input", "kindOf", "(I)I"⟩ : Cond) ∈ gw := gw_t 807 (by decide +kernel) rfl
set_option maxRecDepth 100000 in
theorem tw808 : (.code ⟨"FamilyChart$Input", "kindOf", "(I)I"⟩ prog_5_method_6_code 1 (Option.some ClassFile.FieldType.int) : Cond) ∈ gw := gw_t 808 (by decide +kernel) rfl
set_option maxRecDepth 100000 in
theorem tw809 : (.constant "FamilyChart$Input" 59 (1000000 : Int32) : Cond) ∈ gw := gw_t 809 (by decide +kernel) rfl
set_option maxRecDepth 100000 in
theorem tw810 : (.methodLink "FamilyChart$Input" 60 ⟨"java/lang/Math", "min", "(II)I"⟩ : Cond) ∈ gw := gw_t 810 (by decide +kernel) rfl
set_option maxRecDepth 100000 in
theorem tw811 : (.methodLink "FamilyChart$TextReader" 31 ⟨"FamilyChart$Input", "isFine", "()Z"⟩ : Cond) ∈ gw := gw_t 811 (by decide +kernel) rfl
set_option maxRecDepth 100000 in
theorem tw813 : (.methodLink "FamilyChart$TextReader" 41 ⟨"FamilyChart$Input", "isWord", "(Ljava/lang/String;)Z"⟩ : Cond) ∈ gw := gw_t 813 (by decide +kernel) rfl
set_option maxRecDepth 100000 in
theorem tw814 : (.instanceMethod ⟨"FamilyChart$Input", "isWord", "(Ljava/lang/String;)Z"⟩ : Cond) ∈ gw := gw_t 814 (by decide +kernel) rfl
set_option maxRecDepth 100000 in
theorem tw815 : (.selects "FamilyChart$Input" ⟨"FamilyChart$Input", "isWord", "(Ljava/lang/String;)Z"⟩ ⟨"FamilyChart$Input", "isWord", "(Ljava/lang/String;)Z"⟩ : Cond) ∈ gw := gw_t 815 (by decide +kernel) rfl
set_option maxRecDepth 100000 in
theorem tw816 : (.code ⟨"FamilyChart$Input", "isWord", "(Ljava/lang/String;)Z"⟩ prog_5_method_11_code 3 (Option.some ClassFile.FieldType.boolean) : Cond) ∈ gw := gw_t 816 (by decide +kernel) rfl
set_option maxRecDepth 100000 in
theorem tw817 : (.methodLink "FamilyChart$Input" 66 ⟨"java/lang/String", "length", "()I"⟩ : Cond) ∈ gw := gw_t 817 (by decide +kernel) rfl
set_option maxRecDepth 100000 in
theorem tw818 : (.methodLink "FamilyChart$Input" 71 ⟨"java/lang/String", "charAt", "(I)C"⟩ : Cond) ∈ gw := gw_t 818 (by decide +kernel) rfl
set_option maxRecDepth 100000 in
theorem tw819 : (.methodLink "FamilyChart$TextReader" 45 ⟨"FamilyChart$TextReader", "readPerson", "()V"⟩ : Cond) ∈ gw := gw_t 819 (by decide +kernel) rfl
set_option maxRecDepth 100000 in
theorem tw821 : (.instanceMethod ⟨"FamilyChart$TextReader", "readPerson", "()V"⟩ : Cond) ∈ gw := gw_t 821 (by decide +kernel) rfl
set_option maxRecDepth 100000 in
theorem tw822 : (.code ⟨"FamilyChart$TextReader", "readPerson", "()V"⟩ prog_10_method_3_code 3 (Option.none : Option ClassFile.FieldType) : Cond) ∈ gw := gw_t 822 (by decide +kernel) rfl
set_option maxRecDepth 100000 in
theorem tw823 : (.methodLink "FamilyChart$TextReader" 53 ⟨"FamilyChart$Input", "fail", "(I)V"⟩ : Cond) ∈ gw := gw_t 823 (by decide +kernel) rfl
set_option maxRecDepth 100000 in
theorem tw824 : (.instanceMethod ⟨"FamilyChart$Input", "fail", "(I)V"⟩ : Cond) ∈ gw := gw_t 824 (by decide +kernel) rfl
set_option maxRecDepth 100000 in
theorem tw825 : (.selects "FamilyChart$Input" ⟨"FamilyChart$Input", "fail", "(I)V"⟩ ⟨"FamilyChart$Input", "fail", "(I)V"⟩ : Cond) ∈ gw := gw_t 825 (by decide +kernel) rfl
set_option maxRecDepth 100000 in
theorem tw826 : (.code ⟨"FamilyChart$Input", "fail", "(I)V"⟩ prog_5_method_8_code 2 (Option.none : Option ClassFile.FieldType) : Cond) ∈ gw := gw_t 826 (by decide +kernel) rfl
set_option maxRecDepth 100000 in
theorem tw827 : (.methodLink "FamilyChart$TextReader" 65 ⟨"FamilyChart$Input", "advance", "()V"⟩ : Cond) ∈ gw := gw_t 827 (by decide +kernel) rfl
set_option maxRecDepth 100000 in
theorem tw828 : (.methodLink "FamilyChart$TextReader" 68 ⟨"FamilyChart$TextReader", "checkNewName", "()V"⟩ : Cond) ∈ gw := gw_t 828 (by decide +kernel) rfl
set_option maxRecDepth 100000 in
theorem tw830 : (.instanceMethod ⟨"FamilyChart$TextReader", "checkNewName", "()V"⟩ : Cond) ∈ gw := gw_t 830 (by decide +kernel) rfl
set_option maxRecDepth 100000 in
theorem tw831 : (.code ⟨"FamilyChart$TextReader", "checkNewName", "()V"⟩ prog_10_method_4_code 1 (Option.none : Option ClassFile.FieldType) : Cond) ∈ gw := gw_t 831 (by decide +kernel) rfl
set_option maxRecDepth 100000 in
theorem tw832 : (.methodLink "FamilyChart$TextReader" 75 ⟨"FamilyChart$Input", "wordLength", "()I"⟩ : Cond) ∈ gw := gw_t 832 (by decide +kernel) rfl
set_option maxRecDepth 100000 in
theorem tw833 : (.instanceMethod ⟨"FamilyChart$Input", "wordLength", "()I"⟩ : Cond) ∈ gw := gw_t 833 (by decide +kernel) rfl
set_option maxRecDepth 100000 in
theorem tw834 : (.selects "FamilyChart$Input" ⟨"FamilyChart$Input", "wordLength", "()I"⟩ ⟨"FamilyChart$Input", "wordLength", "()I"⟩ : Cond) ∈ gw := gw_t 834 (by decide +kernel) rfl
set_option maxRecDepth 100000 in
theorem tw835 : (.code ⟨"FamilyChart$Input", "wordLength", "()I"⟩ prog_5_method_9_code 1 (Option.some ClassFile.FieldType.int) : Cond) ∈ gw := gw_t 835 (by decide +kernel) rfl
set_option maxRecDepth 100000 in
theorem tw836 : (.methodLink "FamilyChart$TextReader" 100 ⟨"FamilyChart$TextReader", "personNamed", "()I"⟩ : Cond) ∈ gw := gw_t 836 (by decide +kernel) rfl
set_option maxRecDepth 100000 in
theorem tw838 : (.instanceMethod ⟨"FamilyChart$TextReader", "personNamed", "()I"⟩ : Cond) ∈ gw := gw_t 838 (by decide +kernel) rfl
set_option maxRecDepth 100000 in
theorem tw839 : (.code ⟨"FamilyChart$TextReader", "personNamed", "()I"⟩ prog_10_method_9_code 2 (Option.some ClassFile.FieldType.int) : Cond) ∈ gw := gw_t 839 (by decide +kernel) rfl
set_option maxRecDepth 100000 in
theorem tw841 : (.methodLink "FamilyChart$TextReader" 144 ⟨"FamilyChart$Input", "isSpelled", "([III)Z"⟩ : Cond) ∈ gw := gw_t 841 (by decide +kernel) rfl
set_option maxRecDepth 100000 in
theorem tw842 : (.instanceMethod ⟨"FamilyChart$Input", "isSpelled", "([III)Z"⟩ : Cond) ∈ gw := gw_t 842 (by decide +kernel) rfl
set_option maxRecDepth 100000 in
theorem tw843 : (.selects "FamilyChart$Input" ⟨"FamilyChart$Input", "isSpelled", "([III)Z"⟩ ⟨"FamilyChart$Input", "isSpelled", "([III)Z"⟩ : Cond) ∈ gw := gw_t 843 (by decide +kernel) rfl
set_option maxRecDepth 100000 in
theorem tw844 : (.code ⟨"FamilyChart$Input", "isSpelled", "([III)Z"⟩ prog_5_method_12_code 5 (Option.some ClassFile.FieldType.boolean) : Cond) ∈ gw := gw_t 844 (by decide +kernel) rfl
set_option maxRecDepth 100000 in
theorem tw845 : (.methodLink "FamilyChart$TextReader" 71 ⟨"FamilyChart$Family", "addPerson", "()I"⟩ : Cond) ∈ gw := gw_t 845 (by decide +kernel) rfl
set_option maxRecDepth 100000 in
theorem tw846 : (.instanceMethod ⟨"FamilyChart$Family", "addPerson", "()I"⟩ : Cond) ∈ gw := gw_t 846 (by decide +kernel) rfl
set_option maxRecDepth 100000 in
theorem tw847 : (.selects "FamilyChart$Family" ⟨"FamilyChart$Family", "addPerson", "()I"⟩ ⟨"FamilyChart$Family", "addPerson", "()I"⟩ : Cond) ∈ gw := gw_t 847 (by decide +kernel) rfl
set_option maxRecDepth 100000 in
theorem tw848 : (.code ⟨"FamilyChart$Family", "addPerson", "()I"⟩ prog_3_method_5_code 2 (Option.some ClassFile.FieldType.int) : Cond) ∈ gw := gw_t 848 (by decide +kernel) rfl
set_option maxRecDepth 100000 in
theorem tw849 : (.methodLink "FamilyChart$TextReader" 78 ⟨"FamilyChart$Input", "letter", "(I)I"⟩ : Cond) ∈ gw := gw_t 849 (by decide +kernel) rfl
set_option maxRecDepth 100000 in
theorem tw850 : (.instanceMethod ⟨"FamilyChart$Input", "letter", "(I)I"⟩ : Cond) ∈ gw := gw_t 850 (by decide +kernel) rfl
set_option maxRecDepth 100000 in
theorem tw851 : (.selects "FamilyChart$Input" ⟨"FamilyChart$Input", "letter", "(I)I"⟩ ⟨"FamilyChart$Input", "letter", "(I)I"⟩ : Cond) ∈ gw := gw_t 851 (by decide +kernel) rfl
set_option maxRecDepth 100000 in
theorem tw852 : (.code ⟨"FamilyChart$Input", "letter", "(I)I"⟩ prog_5_method_10_code 2 (Option.some ClassFile.FieldType.int) : Cond) ∈ gw := gw_t 852 (by decide +kernel) rfl
set_option maxRecDepth 100000 in
theorem tw853 : (.methodLink "FamilyChart$TextReader" 82 ⟨"FamilyChart$Family", "addLetter", "(II)V"⟩ : Cond) ∈ gw := gw_t 853 (by decide +kernel) rfl
set_option maxRecDepth 100000 in
theorem tw854 : (.instanceMethod ⟨"FamilyChart$Family", "addLetter", "(II)V"⟩ : Cond) ∈ gw := gw_t 854 (by decide +kernel) rfl
set_option maxRecDepth 100000 in
theorem tw855 : (.selects "FamilyChart$Family" ⟨"FamilyChart$Family", "addLetter", "(II)V"⟩ ⟨"FamilyChart$Family", "addLetter", "(II)V"⟩ : Cond) ∈ gw := gw_t 855 (by decide +kernel) rfl
set_option maxRecDepth 100000 in
theorem tw856 : (.code ⟨"FamilyChart$Family", "addLetter", "(II)V"⟩ prog_3_method_6_code 4 (Option.none : Option ClassFile.FieldType) : Cond) ∈ gw := gw_t 856 (by decide +kernel) rfl
set_option maxRecDepth 100000 in
theorem tw857 : (.methodLink "FamilyChart$TextReader" 90 ⟨"FamilyChart$TextReader", "readYear", "()I"⟩ : Cond) ∈ gw := gw_t 857 (by decide +kernel) rfl
set_option maxRecDepth 100000 in
theorem tw859 : (.instanceMethod ⟨"FamilyChart$TextReader", "readYear", "()I"⟩ : Cond) ∈ gw := gw_t 859 (by decide +kernel) rfl
set_option maxRecDepth 100000 in
theorem tw860 : (.code ⟨"FamilyChart$TextReader", "readYear", "()I"⟩ prog_10_method_10_code 2 (Option.some ClassFile.FieldType.int) : Cond) ∈ gw := gw_t 860 (by decide +kernel) rfl
set_option maxRecDepth 100000 in
theorem tw862 : (.methodLink "FamilyChart$TextReader" 97 ⟨"FamilyChart$TextReader", "readSemicolon", "()V"⟩ : Cond) ∈ gw := gw_t 862 (by decide +kernel) rfl
set_option maxRecDepth 100000 in
theorem tw864 : (.instanceMethod ⟨"FamilyChart$TextReader", "readSemicolon", "()V"⟩ : Cond) ∈ gw := gw_t 864 (by decide +kernel) rfl
set_option maxRecDepth 100000 in
theorem tw865 : (.code ⟨"FamilyChart$TextReader", "readSemicolon", "()V"⟩ prog_10_method_11_code 1 (Option.none : Option ClassFile.FieldType) : Cond) ∈ gw := gw_t 865 (by decide +kernel) rfl
set_option maxRecDepth 100000 in
theorem tw866 : (.methodLink "FamilyChart$TextReader" 151 ⟨"FamilyChart$Input", "isSign", "(I)Z"⟩ : Cond) ∈ gw := gw_t 866 (by decide +kernel) rfl
set_option maxRecDepth 100000 in
theorem tw867 : (.instanceMethod ⟨"FamilyChart$Input", "isSign", "(I)Z"⟩ : Cond) ∈ gw := gw_t 867 (by decide +kernel) rfl
set_option maxRecDepth 100000 in
theorem tw868 : (.selects "FamilyChart$Input" ⟨"FamilyChart$Input", "isSign", "(I)Z"⟩ ⟨"FamilyChart$Input", "isSign", "(I)Z"⟩ : Cond) ∈ gw := gw_t 868 (by decide +kernel) rfl
set_option maxRecDepth 100000 in
theorem tw869 : (.code ⟨"FamilyChart$Input", "isSign", "(I)Z"⟩ prog_5_method_13_code 2 (Option.some ClassFile.FieldType.boolean) : Cond) ∈ gw := gw_t 869 (by decide +kernel) rfl
set_option maxRecDepth 100000 in
theorem tw871 : (.methodLink "FamilyChart$TextReader" 50 ⟨"FamilyChart$TextReader", "readUnion", "()V"⟩ : Cond) ∈ gw := gw_t 871 (by decide +kernel) rfl
set_option maxRecDepth 100000 in
theorem tw873 : (.instanceMethod ⟨"FamilyChart$TextReader", "readUnion", "()V"⟩ : Cond) ∈ gw := gw_t 873 (by decide +kernel) rfl
set_option maxRecDepth 100000 in
theorem tw874 : (.code ⟨"FamilyChart$TextReader", "readUnion", "()V"⟩ prog_10_method_5_code 6 (Option.none : Option ClassFile.FieldType) : Cond) ∈ gw := gw_t 874 (by decide +kernel) rfl
set_option maxRecDepth 100000 in
theorem tw875 : (.methodLink "FamilyChart$TextReader" 106 ⟨"FamilyChart$TextReader", "checkedPerson", "()I"⟩ : Cond) ∈ gw := gw_t 875 (by decide +kernel) rfl
set_option maxRecDepth 100000 in
theorem tw877 : (.instanceMethod ⟨"FamilyChart$TextReader", "checkedPerson", "()I"⟩ : Cond) ∈ gw := gw_t 877 (by decide +kernel) rfl
set_option maxRecDepth 100000 in
theorem tw878 : (.code ⟨"FamilyChart$TextReader", "checkedPerson", "()I"⟩ prog_10_method_8_code 2 (Option.some ClassFile.FieldType.int) : Cond) ∈ gw := gw_t 878 (by decide +kernel) rfl
set_option maxRecDepth 100000 in
theorem tw879 : (.methodLink "FamilyChart$TextReader" 109 ⟨"FamilyChart$TextReader", "checkPair", "(II)V"⟩ : Cond) ∈ gw := gw_t 879 (by decide +kernel) rfl
set_option maxRecDepth 100000 in
theorem tw881 : (.instanceMethod ⟨"FamilyChart$TextReader", "checkPair", "(II)V"⟩ : Cond) ∈ gw := gw_t 881 (by decide +kernel) rfl
set_option maxRecDepth 100000 in
theorem tw882 : (.code ⟨"FamilyChart$TextReader", "checkPair", "(II)V"⟩ prog_10_method_6_code 3 (Option.none : Option ClassFile.FieldType) : Cond) ∈ gw := gw_t 882 (by decide +kernel) rfl
set_option maxRecDepth 100000 in
theorem tw883 : (.methodLink "FamilyChart$TextReader" 119 ⟨"FamilyChart$Family", "unionOfPair", "(II)I"⟩ : Cond) ∈ gw := gw_t 883 (by decide +kernel) rfl
set_option maxRecDepth 100000 in
theorem tw884 : (.instanceMethod ⟨"FamilyChart$Family", "unionOfPair", "(II)I"⟩ : Cond) ∈ gw := gw_t 884 (by decide +kernel) rfl
set_option maxRecDepth 100000 in
theorem tw885 : (.selects "FamilyChart$Family" ⟨"FamilyChart$Family", "unionOfPair", "(II)I"⟩ ⟨"FamilyChart$Family", "unionOfPair", "(II)I"⟩ : Cond) ∈ gw := gw_t 885 (by decide +kernel) rfl
set_option maxRecDepth 100000 in
theorem tw886 : (.code ⟨"FamilyChart$Family", "unionOfPair", "(II)I"⟩ prog_3_method_18_code 4 (Option.some ClassFile.FieldType.int) : Cond) ∈ gw := gw_t 886 (by decide +kernel) rfl
set_option maxRecDepth 100000 in
theorem tw887 : (.methodLink "FamilyChart$TextReader" 112 ⟨"FamilyChart$Family", "addUnion", "(III)I"⟩ : Cond) ∈ gw := gw_t 887 (by decide +kernel) rfl
set_option maxRecDepth 100000 in
theorem tw888 : (.instanceMethod ⟨"FamilyChart$Family", "addUnion", "(III)I"⟩ : Cond) ∈ gw := gw_t 888 (by decide +kernel) rfl
set_option maxRecDepth 100000 in
theorem tw889 : (.selects "FamilyChart$Family" ⟨"FamilyChart$Family", "addUnion", "(III)I"⟩ ⟨"FamilyChart$Family", "addUnion", "(III)I"⟩ : Cond) ∈ gw := gw_t 889 (by decide +kernel) rfl
set_option maxRecDepth 100000 in
theorem tw890 : (.code ⟨"FamilyChart$Family", "addUnion", "(III)I"⟩ prog_3_method_7_code 5 (Option.some ClassFile.FieldType.int) : Cond) ∈ gw := gw_t 890 (by decide +kernel) rfl
set_option maxRecDepth 100000 in
theorem tw891 : (.methodLink "FamilyChart$TextReader" 116 ⟨"FamilyChart$TextReader", "readChild", "(I)V"⟩ : Cond) ∈ gw := gw_t 891 (by decide +kernel) rfl
set_option maxRecDepth 100000 in
theorem tw893 : (.instanceMethod ⟨"FamilyChart$TextReader", "readChild", "(I)V"⟩ : Cond) ∈ gw := gw_t 893 (by decide +kernel) rfl
set_option maxRecDepth 100000 in
theorem tw894 : (.code ⟨"FamilyChart$TextReader", "readChild", "(I)V"⟩ prog_10_method_7_code 3 (Option.none : Option ClassFile.FieldType) : Cond) ∈ gw := gw_t 894 (by decide +kernel) rfl
set_option maxRecDepth 100000 in
theorem tw895 : (.methodLink "FamilyChart$TextReader" 123 ⟨"FamilyChart$Family", "hasParents", "(I)Z"⟩ : Cond) ∈ gw := gw_t 895 (by decide +kernel) rfl
set_option maxRecDepth 100000 in
theorem tw896 : (.methodLink "FamilyChart$TextReader" 127 ⟨"FamilyChart$Family", "partnerOrAncestor", "(II)Z"⟩ : Cond) ∈ gw := gw_t 896 (by decide +kernel) rfl
set_option maxRecDepth 100000 in
theorem tw897 : (.instanceMethod ⟨"FamilyChart$Family", "partnerOrAncestor", "(II)Z"⟩ : Cond) ∈ gw := gw_t 897 (by decide +kernel) rfl
set_option maxRecDepth 100000 in
theorem tw898 : (.selects "FamilyChart$Family" ⟨"FamilyChart$Family", "partnerOrAncestor", "(II)Z"⟩ ⟨"FamilyChart$Family", "partnerOrAncestor", "(II)Z"⟩ : Cond) ∈ gw := gw_t 898 (by decide +kernel) rfl
set_option maxRecDepth 100000 in
theorem tw899 : (.code ⟨"FamilyChart$Family", "partnerOrAncestor", "(II)Z"⟩ prog_3_method_19_code 4 (Option.some ClassFile.FieldType.boolean) : Cond) ∈ gw := gw_t 899 (by decide +kernel) rfl
set_option maxRecDepth 100000 in
theorem tw900 : (.methodLink "FamilyChart$TextReader" 56 ⟨"FamilyChart$Family", "refresh", "()V"⟩ : Cond) ∈ gw := gw_t 900 (by decide +kernel) rfl
set_option maxRecDepth 100000 in
theorem tw901 : (.methodLink "FamilyChart" 108 ⟨"FamilyChart$Family", "copyFrom", "(LFamilyChart$Family;)V"⟩ : Cond) ∈ gw := gw_t 901 (by decide +kernel) rfl
set_option maxRecDepth 100000 in
theorem tw902 : (.instanceMethod ⟨"FamilyChart$Family", "copyFrom", "(LFamilyChart$Family;)V"⟩ : Cond) ∈ gw := gw_t 902 (by decide +kernel) rfl
set_option maxRecDepth 100000 in
theorem tw903 : (.selects "FamilyChart$Family" ⟨"FamilyChart$Family", "copyFrom", "(LFamilyChart$Family;)V"⟩ ⟨"FamilyChart$Family", "copyFrom", "(LFamilyChart$Family;)V"⟩ : Cond) ∈ gw := gw_t 903 (by decide +kernel) rfl
set_option maxRecDepth 100000 in
theorem tw904 : (.code ⟨"FamilyChart$Family", "copyFrom", "(LFamilyChart$Family;)V"⟩ prog_3_method_8_code 2 (Option.none : Option ClassFile.FieldType) : Cond) ∈ gw := gw_t 904 (by decide +kernel) rfl
set_option maxRecDepth 100000 in
theorem tw906 : (.methodLink "FamilyChart" 114 ⟨"FamilyChart$History", "forgetAll", "()V"⟩ : Cond) ∈ gw := gw_t 906 (by decide +kernel) rfl
set_option maxRecDepth 100000 in
theorem tw907 : (.instanceMethod ⟨"FamilyChart$History", "forgetAll", "()V"⟩ : Cond) ∈ gw := gw_t 907 (by decide +kernel) rfl
set_option maxRecDepth 100000 in
theorem tw908 : (.selects "FamilyChart$History" ⟨"FamilyChart$History", "forgetAll", "()V"⟩ ⟨"FamilyChart$History", "forgetAll", "()V"⟩ : Cond) ∈ gw := gw_t 908 (by decide +kernel) rfl
set_option maxRecDepth 100000 in
theorem tw909 : (.code ⟨"FamilyChart$History", "forgetAll", "()V"⟩ prog_4_method_2_code 1 (Option.none : Option ClassFile.FieldType) : Cond) ∈ gw := gw_t 909 (by decide +kernel) rfl
set_option maxRecDepth 100000 in
theorem tw910 : (.methodLink "FamilyChartLaw" 266 ⟨"FamilyChartLaw", "act", "(LFamilyChart;LFamilyChartLaw$Own;I)I"⟩ : Cond) ∈ gw := gw_t 910 (by decide +kernel) rfl
set_option maxRecDepth 100000 in
theorem tw911 : (.static ⟨"FamilyChartLaw", "act", "(LFamilyChart;LFamilyChartLaw$Own;I)I"⟩ : Cond) ∈ gw := gw_t 911 (by decide +kernel) rfl
set_option maxRecDepth 100000 in
theorem tw912 : (.code ⟨"FamilyChartLaw", "act", "(LFamilyChart;LFamilyChartLaw$Own;I)I"⟩ method_17_code 11 (Option.some ClassFile.FieldType.int) : Cond) ∈ gw := gw_t 912 (by decide +kernel) rfl
set_option maxRecDepth 100000 in
theorem tw913 : (.methodLink "FamilyChartLaw" 164 ⟨"FamilyChart", "marry", "(III)I"⟩ : Cond) ∈ gw := gw_t 913 (by decide +kernel) rfl
set_option maxRecDepth 100000 in
theorem tw914 : (.instanceMethod ⟨"FamilyChart", "marry", "(III)I"⟩ : Cond) ∈ gw := gw_t 914 (by decide +kernel) rfl
set_option maxRecDepth 100000 in
theorem tw915 : (.selects "FamilyChart" ⟨"FamilyChart", "marry", "(III)I"⟩ ⟨"FamilyChart", "marry", "(III)I"⟩ : Cond) ∈ gw := gw_t 915 (by decide +kernel) rfl
set_option maxRecDepth 100000 in
theorem tw916 : (.code ⟨"FamilyChart", "marry", "(III)I"⟩ prog_1_method_29_code 5 (Option.some ClassFile.FieldType.int) : Cond) ∈ gw := gw_t 916 (by decide +kernel) rfl
set_option maxRecDepth 100000 in
theorem tw917 : (.methodLink "FamilyChart" 139 ⟨"FamilyChart", "requirePerson", "(I)V"⟩ : Cond) ∈ gw := gw_t 917 (by decide +kernel) rfl
set_option maxRecDepth 100000 in
theorem tw919 : (.instanceMethod ⟨"FamilyChart", "requirePerson", "(I)V"⟩ : Cond) ∈ gw := gw_t 919 (by decide +kernel) rfl
set_option maxRecDepth 100000 in
theorem tw920 : (.code ⟨"FamilyChart", "requirePerson", "(I)V"⟩ prog_1_method_42_code 2 (Option.none : Option ClassFile.FieldType) : Cond) ∈ gw := gw_t 920 (by decide +kernel) rfl
set_option maxRecDepth 100000 in
theorem tw921 : (.methodLink "FamilyChart" 359 ⟨"FamilyChart$Family", "hasPerson", "(I)Z"⟩ : Cond) ∈ gw := gw_t 921 (by decide +kernel) rfl
set_option maxRecDepth 100000 in
theorem tw922 : (.instanceMethod ⟨"FamilyChart$Family", "hasPerson", "(I)Z"⟩ : Cond) ∈ gw := gw_t 922 (by decide +kernel) rfl
set_option maxRecDepth 100000 in
theorem tw923 : (.selects "FamilyChart$Family" ⟨"FamilyChart$Family", "hasPerson", "(I)Z"⟩ ⟨"FamilyChart$Family", "hasPerson", "(I)Z"⟩ : Cond) ∈ gw := gw_t 923 (by decide +kernel) rfl
set_option maxRecDepth 100000 in
theorem tw924 : (.code ⟨"FamilyChart$Family", "hasPerson", "(I)Z"⟩ prog_3_method_2_code 2 (Option.some ClassFile.FieldType.boolean) : Cond) ∈ gw := gw_t 924 (by decide +kernel) rfl
set_option maxRecDepth 100000 in
theorem tw925 : (.classLink "FamilyChart" 162 "java/util/NoSuchElementException" : Cond) ∈ gw := gw_t 925 (by decide +kernel) rfl
set_option maxRecDepth 100000 in
theorem tw926 : (.instantiable "java/util/NoSuchElementException" 6 : Cond) ∈ gw := gw_t 926 (by decide +kernel) rfl
set_option maxRecDepth 100000 in
theorem tw928 : (.selects "java/util/NoSuchElementException" ⟨"java/lang/Throwable", "fillInStackTrace", "(I)Ljava/lang/Throwable;"⟩ ⟨"java/lang/Throwable", "fillInStackTrace", "(I)Ljava/lang/Throwable;"⟩ : Cond) ∈ gw := gw_t 928 (by decide +kernel) rfl
set_option maxRecDepth 100000 in
theorem tw935 : (.methodLink "FamilyChart" 166 ⟨"java/util/NoSuchElementException", "<init>", "(Ljava/lang/String;)V"⟩ : Cond) ∈ gw := gw_t 935 (by decide +kernel) rfl
set_option maxRecDepth 100000 in
theorem tw936 : (.instanceMethod ⟨"java/util/NoSuchElementException", "<init>", "(Ljava/lang/String;)V"⟩ : Cond) ∈ gw := gw_t 936 (by decide +kernel) rfl
set_option maxRecDepth 100000 in
theorem tw937 : (.code ⟨"java/util/NoSuchElementException", "<init>", "(Ljava/lang/String;)V"⟩ prog_28_method_4_code 2 (Option.none : Option ClassFile.FieldType) : Cond) ∈ gw := gw_t 937 (by decide +kernel) rfl
set_option maxRecDepth 100000 in
theorem tw938 : (.methodLink "java/util/NoSuchElementException" 13 ⟨"java/lang/RuntimeException", "<init>", "(Ljava/lang/String;)V"⟩ : Cond) ∈ gw := gw_t 938 (by decide +kernel) rfl
set_option maxRecDepth 100000 in
theorem tw942 : (.methodLink "FamilyChart" 304 ⟨"FamilyChart$Family", "unionOfPair", "(II)I"⟩ : Cond) ∈ gw := gw_t 942 (by decide +kernel) rfl
set_option maxRecDepth 100000 in
theorem tw943 : (.methodLink "FamilyChart" 310 ⟨"FamilyChart$Family", "addUnion", "(III)I"⟩ : Cond) ∈ gw := gw_t 943 (by decide +kernel) rfl
set_option maxRecDepth 100000 in
theorem tw944 : (.methodLink "FamilyChart" 314 ⟨"FamilyChart", "renewRows", "()V"⟩ : Cond) ∈ gw := gw_t 944 (by decide +kernel) rfl
set_option maxRecDepth 100000 in
theorem tw946 : (.instanceMethod ⟨"FamilyChart", "renewRows", "()V"⟩ : Cond) ∈ gw := gw_t 946 (by decide +kernel) rfl
set_option maxRecDepth 100000 in
theorem tw947 : (.code ⟨"FamilyChart", "renewRows", "()V"⟩ prog_1_method_41_code 1 (Option.none : Option ClassFile.FieldType) : Cond) ∈ gw := gw_t 947 (by decide +kernel) rfl
set_option maxRecDepth 100000 in
theorem tw948 : (.methodLink "FamilyChart" 356 ⟨"FamilyChart$Family", "refresh", "()V"⟩ : Cond) ∈ gw := gw_t 948 (by decide +kernel) rfl
set_option maxRecDepth 100000 in
theorem tw950 : (.methodLink "FamilyChartLaw" 167 ⟨"FamilyChart", "adopt", "(II)I"⟩ : Cond) ∈ gw := gw_t 950 (by decide +kernel) rfl
set_option maxRecDepth 100000 in
theorem tw951 : (.instanceMethod ⟨"FamilyChart", "adopt", "(II)I"⟩ : Cond) ∈ gw := gw_t 951 (by decide +kernel) rfl
set_option maxRecDepth 100000 in
theorem tw952 : (.selects "FamilyChart" ⟨"FamilyChart", "adopt", "(II)I"⟩ ⟨"FamilyChart", "adopt", "(II)I"⟩ : Cond) ∈ gw := gw_t 952 (by decide +kernel) rfl
set_option maxRecDepth 100000 in
theorem tw953 : (.code ⟨"FamilyChart", "adopt", "(II)I"⟩ prog_1_method_30_code 3 (Option.some ClassFile.FieldType.int) : Cond) ∈ gw := gw_t 953 (by decide +kernel) rfl
set_option maxRecDepth 100000 in
theorem tw954 : (.methodLink "FamilyChart" 167 ⟨"FamilyChart", "requireUnion", "(I)V"⟩ : Cond) ∈ gw := gw_t 954 (by decide +kernel) rfl
set_option maxRecDepth 100000 in
theorem tw956 : (.instanceMethod ⟨"FamilyChart", "requireUnion", "(I)V"⟩ : Cond) ∈ gw := gw_t 956 (by decide +kernel) rfl
set_option maxRecDepth 100000 in
theorem tw957 : (.code ⟨"FamilyChart", "requireUnion", "(I)V"⟩ prog_1_method_43_code 2 (Option.none : Option ClassFile.FieldType) : Cond) ∈ gw := gw_t 957 (by decide +kernel) rfl
set_option maxRecDepth 100000 in
theorem tw958 : (.methodLink "FamilyChart" 364 ⟨"FamilyChart$Family", "hasUnion", "(I)Z"⟩ : Cond) ∈ gw := gw_t 958 (by decide +kernel) rfl
set_option maxRecDepth 100000 in
theorem tw959 : (.instanceMethod ⟨"FamilyChart$Family", "hasUnion", "(I)Z"⟩ : Cond) ∈ gw := gw_t 959 (by decide +kernel) rfl
set_option maxRecDepth 100000 in
theorem tw960 : (.selects "FamilyChart$Family" ⟨"FamilyChart$Family", "hasUnion", "(I)Z"⟩ ⟨"FamilyChart$Family", "hasUnion", "(I)Z"⟩ : Cond) ∈ gw := gw_t 960 (by decide +kernel) rfl
set_option maxRecDepth 100000 in
theorem tw961 : (.code ⟨"FamilyChart$Family", "hasUnion", "(I)Z"⟩ prog_3_method_3_code 2 (Option.some ClassFile.FieldType.boolean) : Cond) ∈ gw := gw_t 961 (by decide +kernel) rfl
set_option maxRecDepth 100000 in
theorem tw963 : (.methodLink "FamilyChart" 317 ⟨"FamilyChart$Family", "hasParents", "(I)Z"⟩ : Cond) ∈ gw := gw_t 963 (by decide +kernel) rfl
set_option maxRecDepth 100000 in
theorem tw964 : (.methodLink "FamilyChart" 321 ⟨"FamilyChart$Family", "partnerOrAncestor", "(II)Z"⟩ : Cond) ∈ gw := gw_t 964 (by decide +kernel) rfl
set_option maxRecDepth 100000 in
theorem tw965 : (.methodLink "FamilyChartLaw" 170 ⟨"FamilyChart", "release", "(I)I"⟩ : Cond) ∈ gw := gw_t 965 (by decide +kernel) rfl
set_option maxRecDepth 100000 in
theorem tw966 : (.instanceMethod ⟨"FamilyChart", "release", "(I)I"⟩ : Cond) ∈ gw := gw_t 966 (by decide +kernel) rfl
set_option maxRecDepth 100000 in
theorem tw967 : (.selects "FamilyChart" ⟨"FamilyChart", "release", "(I)I"⟩ ⟨"FamilyChart", "release", "(I)I"⟩ : Cond) ∈ gw := gw_t 967 (by decide +kernel) rfl
set_option maxRecDepth 100000 in
theorem tw968 : (.code ⟨"FamilyChart", "release", "(I)I"⟩ prog_1_method_31_code 3 (Option.some ClassFile.FieldType.int) : Cond) ∈ gw := gw_t 968 (by decide +kernel) rfl
set_option maxRecDepth 100000 in
theorem tw969 : (.methodLink "FamilyChartLaw" 173 ⟨"FamilyChart", "crossingsIf", "(III)I"⟩ : Cond) ∈ gw := gw_t 969 (by decide +kernel) rfl
set_option maxRecDepth 100000 in
theorem tw970 : (.instanceMethod ⟨"FamilyChart", "crossingsIf", "(III)I"⟩ : Cond) ∈ gw := gw_t 970 (by decide +kernel) rfl
set_option maxRecDepth 100000 in
theorem tw971 : (.selects "FamilyChart" ⟨"FamilyChart", "crossingsIf", "(III)I"⟩ ⟨"FamilyChart", "crossingsIf", "(III)I"⟩ : Cond) ∈ gw := gw_t 971 (by decide +kernel) rfl
set_option maxRecDepth 100000 in
theorem tw972 : (.code ⟨"FamilyChart", "crossingsIf", "(III)I"⟩ prog_1_method_21_code 5 (Option.some ClassFile.FieldType.int) : Cond) ∈ gw := gw_t 972 (by decide +kernel) rfl
set_option maxRecDepth 100000 in
theorem tw973 : (.methodLink "FamilyChart" 235 ⟨"FamilyChart", "requirePlace", "(II)V"⟩ : Cond) ∈ gw := gw_t 973 (by decide +kernel) rfl
set_option maxRecDepth 100000 in
theorem tw975 : (.instanceMethod ⟨"FamilyChart", "requirePlace", "(II)V"⟩ : Cond) ∈ gw := gw_t 975 (by decide +kernel) rfl
set_option maxRecDepth 100000 in
theorem tw976 : (.code ⟨"FamilyChart", "requirePlace", "(II)V"⟩ prog_1_method_45_code 3 (Option.none : Option ClassFile.FieldType) : Cond) ∈ gw := gw_t 976 (by decide +kernel) rfl
set_option maxRecDepth 100000 in
theorem tw977 : (.methodLink "FamilyChart" 229 ⟨"FamilyChart", "requireRow", "(I)V"⟩ : Cond) ∈ gw := gw_t 977 (by decide +kernel) rfl
set_option maxRecDepth 100000 in
theorem tw979 : (.instanceMethod ⟨"FamilyChart", "requireRow", "(I)V"⟩ : Cond) ∈ gw := gw_t 979 (by decide +kernel) rfl
set_option maxRecDepth 100000 in
theorem tw980 : (.code ⟨"FamilyChart", "requireRow", "(I)V"⟩ prog_1_method_44_code 2 (Option.none : Option ClassFile.FieldType) : Cond) ∈ gw := gw_t 980 (by decide +kernel) rfl
set_option maxRecDepth 100000 in
theorem tw982 : (.methodLink "FamilyChart" 232 ⟨"FamilyChart$Rows", "boxCountOf", "(I)I"⟩ : Cond) ∈ gw := gw_t 982 (by decide +kernel) rfl
set_option maxRecDepth 100000 in
theorem tw984 : (.methodLink "FamilyChart" 268 ⟨"FamilyChart$Rows", "exchange", "(III)V"⟩ : Cond) ∈ gw := gw_t 984 (by decide +kernel) rfl
set_option maxRecDepth 100000 in
theorem tw985 : (.instanceMethod ⟨"FamilyChart$Rows", "exchange", "(III)V"⟩ : Cond) ∈ gw := gw_t 985 (by decide +kernel) rfl
set_option maxRecDepth 100000 in
theorem tw986 : (.selects "FamilyChart$Rows" ⟨"FamilyChart$Rows", "exchange", "(III)V"⟩ ⟨"FamilyChart$Rows", "exchange", "(III)V"⟩ : Cond) ∈ gw := gw_t 986 (by decide +kernel) rfl
set_option maxRecDepth 100000 in
theorem tw987 : (.code ⟨"FamilyChart$Rows", "exchange", "(III)V"⟩ prog_9_method_13_code 6 (Option.none : Option ClassFile.FieldType) : Cond) ∈ gw := gw_t 987 (by decide +kernel) rfl
set_option maxRecDepth 100000 in
theorem tw988 : (.methodLink "FamilyChart" 259 ⟨"FamilyChart$Rows", "countAllCrossings", "()I"⟩ : Cond) ∈ gw := gw_t 988 (by decide +kernel) rfl
set_option maxRecDepth 100000 in
theorem tw989 : (.instanceMethod ⟨"FamilyChart$Rows", "countAllCrossings", "()I"⟩ : Cond) ∈ gw := gw_t 989 (by decide +kernel) rfl
set_option maxRecDepth 100000 in
theorem tw990 : (.selects "FamilyChart$Rows" ⟨"FamilyChart$Rows", "countAllCrossings", "()I"⟩ ⟨"FamilyChart$Rows", "countAllCrossings", "()I"⟩ : Cond) ∈ gw := gw_t 990 (by decide +kernel) rfl
set_option maxRecDepth 100000 in
theorem tw991 : (.code ⟨"FamilyChart$Rows", "countAllCrossings", "()I"⟩ prog_9_method_14_code 3 (Option.some ClassFile.FieldType.int) : Cond) ∈ gw := gw_t 991 (by decide +kernel) rfl
set_option maxRecDepth 100000 in
theorem tw992 : (.methodLink "FamilyChart$Rows" 96 ⟨"FamilyChart$Rows", "countCrossingsIn", "(I)I"⟩ : Cond) ∈ gw := gw_t 992 (by decide +kernel) rfl
set_option maxRecDepth 100000 in
theorem tw993 : (.instanceMethod ⟨"FamilyChart$Rows", "countCrossingsIn", "(I)I"⟩ : Cond) ∈ gw := gw_t 993 (by decide +kernel) rfl
set_option maxRecDepth 100000 in
theorem tw994 : (.selects "FamilyChart$Rows" ⟨"FamilyChart$Rows", "countCrossingsIn", "(I)I"⟩ ⟨"FamilyChart$Rows", "countCrossingsIn", "(I)I"⟩ : Cond) ∈ gw := gw_t 994 (by decide +kernel) rfl
set_option maxRecDepth 100000 in
theorem tw995 : (.code ⟨"FamilyChart$Rows", "countCrossingsIn", "(I)I"⟩ prog_9_method_15_code 4 (Option.some ClassFile.FieldType.int) : Cond) ∈ gw := gw_t 995 (by decide +kernel) rfl
set_option maxRecDepth 100000 in
theorem tw996 : (.methodLink "FamilyChart$Rows" 102 ⟨"FamilyChart$Rows", "countCrossed", "(II)I"⟩ : Cond) ∈ gw := gw_t 996 (by decide +kernel) rfl
set_option maxRecDepth 100000 in
theorem tw998 : (.instanceMethod ⟨"FamilyChart$Rows", "countCrossed", "(II)I"⟩ : Cond) ∈ gw := gw_t 998 (by decide +kernel) rfl
set_option maxRecDepth 100000 in
theorem tw999 : (.code ⟨"FamilyChart$Rows", "countCrossed", "(II)I"⟩ prog_9_method_16_code 5 (Option.some ClassFile.FieldType.int) : Cond) ∈ gw := gw_t 999 (by decide +kernel) rfl
set_option maxRecDepth 100000 in
theorem tw1000 : (.methodLink "FamilyChart$Rows" 105 ⟨"FamilyChart$Rows", "cross", "(II)Z"⟩ : Cond) ∈ gw := gw_t 1000 (by decide +kernel) rfl
set_option maxRecDepth 100000 in
theorem tw1002 : (.instanceMethod ⟨"FamilyChart$Rows", "cross", "(II)Z"⟩ : Cond) ∈ gw := gw_t 1002 (by decide +kernel) rfl
set_option maxRecDepth 100000 in
theorem tw1003 : (.code ⟨"FamilyChart$Rows", "cross", "(II)Z"⟩ prog_9_method_17_code 7 (Option.some ClassFile.FieldType.boolean) : Cond) ∈ gw := gw_t 1003 (by decide +kernel) rfl
set_option maxRecDepth 100000 in
theorem tw1004 : (.methodLink "FamilyChart$Rows" 109 ⟨"FamilyChart$Rows", "liesBetween", "(III)Z"⟩ : Cond) ∈ gw := gw_t 1004 (by decide +kernel) rfl
set_option maxRecDepth 100000 in
theorem tw1005 : (.static ⟨"FamilyChart$Rows", "liesBetween", "(III)Z"⟩ : Cond) ∈ gw := gw_t 1005 (by decide +kernel) rfl
set_option maxRecDepth 100000 in
theorem tw1006 : (.code ⟨"FamilyChart$Rows", "liesBetween", "(III)Z"⟩ prog_9_method_18_code 3 (Option.some ClassFile.FieldType.boolean) : Cond) ∈ gw := gw_t 1006 (by decide +kernel) rfl
set_option maxRecDepth 100000 in
theorem tw1007 : (.methodLink "FamilyChart$Rows" 113 ⟨"java/lang/Math", "min", "(II)I"⟩ : Cond) ∈ gw := gw_t 1007 (by decide +kernel) rfl
set_option maxRecDepth 100000 in
theorem tw1008 : (.methodLink "FamilyChart$Rows" 118 ⟨"java/lang/Math", "max", "(II)I"⟩ : Cond) ∈ gw := gw_t 1008 (by decide +kernel) rfl
set_option maxRecDepth 100000 in
theorem tw1009 : (.methodLink "FamilyChart$Rows" 99 ⟨"FamilyChart$Rows", "countCrossingsBelow", "(I)I"⟩ : Cond) ∈ gw := gw_t 1009 (by decide +kernel) rfl
set_option maxRecDepth 100000 in
theorem tw1010 : (.instanceMethod ⟨"FamilyChart$Rows", "countCrossingsBelow", "(I)I"⟩ : Cond) ∈ gw := gw_t 1010 (by decide +kernel) rfl
set_option maxRecDepth 100000 in
theorem tw1011 : (.selects "FamilyChart$Rows" ⟨"FamilyChart$Rows", "countCrossingsBelow", "(I)I"⟩ ⟨"FamilyChart$Rows", "countCrossingsBelow", "(I)I"⟩ : Cond) ∈ gw := gw_t 1011 (by decide +kernel) rfl
set_option maxRecDepth 100000 in
theorem tw1012 : (.code ⟨"FamilyChart$Rows", "countCrossingsBelow", "(I)I"⟩ prog_9_method_19_code 8 (Option.some ClassFile.FieldType.int) : Cond) ∈ gw := gw_t 1012 (by decide +kernel) rfl
set_option maxRecDepth 100000 in
theorem tw1013 : (.methodLink "FamilyChart$Rows" 121 ⟨"FamilyChart$Rows", "middleOfParents", "(I)I"⟩ : Cond) ∈ gw := gw_t 1013 (by decide +kernel) rfl
set_option maxRecDepth 100000 in
theorem tw1015 : (.instanceMethod ⟨"FamilyChart$Rows", "middleOfParents", "(I)I"⟩ : Cond) ∈ gw := gw_t 1015 (by decide +kernel) rfl
set_option maxRecDepth 100000 in
theorem tw1016 : (.code ⟨"FamilyChart$Rows", "middleOfParents", "(I)I"⟩ prog_9_method_20_code 2 (Option.some ClassFile.FieldType.int) : Cond) ∈ gw := gw_t 1016 (by decide +kernel) rfl
set_option maxRecDepth 100000 in
theorem tw1017 : (.methodLink "FamilyChart$Rows" 127 ⟨"FamilyChart$Rows", "middleOf", "(I)I"⟩ : Cond) ∈ gw := gw_t 1017 (by decide +kernel) rfl
set_option maxRecDepth 100000 in
theorem tw1018 : (.instanceMethod ⟨"FamilyChart$Rows", "middleOf", "(I)I"⟩ : Cond) ∈ gw := gw_t 1018 (by decide +kernel) rfl
set_option maxRecDepth 100000 in
theorem tw1019 : (.selects "FamilyChart$Rows" ⟨"FamilyChart$Rows", "middleOf", "(I)I"⟩ ⟨"FamilyChart$Rows", "middleOf", "(I)I"⟩ : Cond) ∈ gw := gw_t 1019 (by decide +kernel) rfl
set_option maxRecDepth 100000 in
theorem tw1020 : (.code ⟨"FamilyChart$Rows", "middleOf", "(I)I"⟩ prog_9_method_12_code 2 (Option.some ClassFile.FieldType.int) : Cond) ∈ gw := gw_t 1020 (by decide +kernel) rfl
set_option maxRecDepth 100000 in
theorem tw1023 : (.instanceMethod ⟨"FamilyChartLaw$Own", "turn", "(III)V"⟩ : Cond) ∈ gw := gw_t 1023 (by decide +kernel) rfl
set_option maxRecDepth 100000 in
theorem tw1024 : (.code ⟨"FamilyChartLaw$Own", "turn", "(III)V"⟩ prog_12_method_19_code 5 (Option.none : Option ClassFile.FieldType) : Cond) ∈ gw := gw_t 1024 (by decide +kernel) rfl
set_option maxRecDepth 100000 in
theorem tw1025 : (.methodLink "FamilyChartLaw" 180 ⟨"FamilyChart", "swap", "(III)I"⟩ : Cond) ∈ gw := gw_t 1025 (by decide +kernel) rfl
set_option maxRecDepth 100000 in
theorem tw1026 : (.instanceMethod ⟨"FamilyChart", "swap", "(III)I"⟩ : Cond) ∈ gw := gw_t 1026 (by decide +kernel) rfl
set_option maxRecDepth 100000 in
theorem tw1027 : (.selects "FamilyChart" ⟨"FamilyChart", "swap", "(III)I"⟩ ⟨"FamilyChart", "swap", "(III)I"⟩ : Cond) ∈ gw := gw_t 1027 (by decide +kernel) rfl
set_option maxRecDepth 100000 in
theorem tw1028 : (.code ⟨"FamilyChart", "swap", "(III)I"⟩ prog_1_method_32_code 4 (Option.some ClassFile.FieldType.int) : Cond) ∈ gw := gw_t 1028 (by decide +kernel) rfl
set_option maxRecDepth 100000 in
theorem tw1031 : (.instanceMethod ⟨"FamilyChartLaw$Own", "all", "()I"⟩ : Cond) ∈ gw := gw_t 1031 (by decide +kernel) rfl
set_option maxRecDepth 100000 in
theorem tw1032 : (.code ⟨"FamilyChartLaw$Own", "all", "()I"⟩ prog_12_method_18_code 3 (Option.some ClassFile.FieldType.int) : Cond) ∈ gw := gw_t 1032 (by decide +kernel) rfl
set_option maxRecDepth 100000 in
theorem tw1033 : (.methodLink "FamilyChartLaw$Own" 98 ⟨"FamilyChartLaw$Own", "inRow", "(I)I"⟩ : Cond) ∈ gw := gw_t 1033 (by decide +kernel) rfl
set_option maxRecDepth 100000 in
theorem tw1035 : (.instanceMethod ⟨"FamilyChartLaw$Own", "inRow", "(I)I"⟩ : Cond) ∈ gw := gw_t 1035 (by decide +kernel) rfl
set_option maxRecDepth 100000 in
theorem tw1036 : (.code ⟨"FamilyChartLaw$Own", "inRow", "(I)I"⟩ prog_12_method_16_code 9 (Option.some ClassFile.FieldType.int) : Cond) ∈ gw := gw_t 1036 (by decide +kernel) rfl
set_option maxRecDepth 100000 in
theorem tw1037 : (.methodLink "FamilyChartLaw$Own" 89 ⟨"FamilyChartLaw$Own", "at", "(II)I"⟩ : Cond) ∈ gw := gw_t 1037 (by decide +kernel) rfl
set_option maxRecDepth 100000 in
theorem tw1039 : (.instanceMethod ⟨"FamilyChartLaw$Own", "at", "(II)I"⟩ : Cond) ∈ gw := gw_t 1039 (by decide +kernel) rfl
set_option maxRecDepth 100000 in
theorem tw1040 : (.code ⟨"FamilyChartLaw$Own", "at", "(II)I"⟩ prog_12_method_14_code 3 (Option.some ClassFile.FieldType.int) : Cond) ∈ gw := gw_t 1040 (by decide +kernel) rfl
set_option maxRecDepth 100000 in
theorem tw1041 : (.methodLink "FamilyChartLaw$Own" 83 ⟨"FamilyChartLaw$Own", "box", "(II)I"⟩ : Cond) ∈ gw := gw_t 1041 (by decide +kernel) rfl
set_option maxRecDepth 100000 in
theorem tw1043 : (.instanceMethod ⟨"FamilyChartLaw$Own", "box", "(II)I"⟩ : Cond) ∈ gw := gw_t 1043 (by decide +kernel) rfl
set_option maxRecDepth 100000 in
theorem tw1044 : (.code ⟨"FamilyChartLaw$Own", "box", "(II)I"⟩ prog_12_method_13_code 4 (Option.some ClassFile.FieldType.int) : Cond) ∈ gw := gw_t 1044 (by decide +kernel) rfl
set_option maxRecDepth 100000 in
theorem tw1045 : (.methodLink "FamilyChartLaw$Own" 86 ⟨"FamilyChartLaw$Own", "place", "(II)I"⟩ : Cond) ∈ gw := gw_t 1045 (by decide +kernel) rfl
set_option maxRecDepth 100000 in
theorem tw1047 : (.instanceMethod ⟨"FamilyChartLaw$Own", "place", "(II)I"⟩ : Cond) ∈ gw := gw_t 1047 (by decide +kernel) rfl
set_option maxRecDepth 100000 in
theorem tw1048 : (.code ⟨"FamilyChartLaw$Own", "place", "(II)I"⟩ prog_12_method_12_code 4 (Option.some ClassFile.FieldType.int) : Cond) ∈ gw := gw_t 1048 (by decide +kernel) rfl
set_option maxRecDepth 100000 in
theorem tw1049 : (.methodLink "FamilyChartLaw$Own" 92 ⟨"java/lang/Math", "min", "(II)I"⟩ : Cond) ∈ gw := gw_t 1049 (by decide +kernel) rfl
set_option maxRecDepth 100000 in
theorem tw1050 : (.methodLink "FamilyChartLaw$Own" 101 ⟨"FamilyChartLaw$Own", "below", "(I)I"⟩ : Cond) ∈ gw := gw_t 1050 (by decide +kernel) rfl
set_option maxRecDepth 100000 in
theorem tw1052 : (.instanceMethod ⟨"FamilyChartLaw$Own", "below", "(I)I"⟩ : Cond) ∈ gw := gw_t 1052 (by decide +kernel) rfl
set_option maxRecDepth 100000 in
theorem tw1053 : (.code ⟨"FamilyChartLaw$Own", "below", "(I)I"⟩ prog_12_method_17_code 5 (Option.some ClassFile.FieldType.int) : Cond) ∈ gw := gw_t 1053 (by decide +kernel) rfl
set_option maxRecDepth 100000 in
theorem tw1054 : (.methodLink "FamilyChartLaw$Own" 95 ⟨"FamilyChartLaw$Own", "middle", "(I)I"⟩ : Cond) ∈ gw := gw_t 1054 (by decide +kernel) rfl
set_option maxRecDepth 100000 in
theorem tw1056 : (.instanceMethod ⟨"FamilyChartLaw$Own", "middle", "(I)I"⟩ : Cond) ∈ gw := gw_t 1056 (by decide +kernel) rfl
set_option maxRecDepth 100000 in
theorem tw1057 : (.code ⟨"FamilyChartLaw$Own", "middle", "(I)I"⟩ prog_12_method_15_code 2 (Option.some ClassFile.FieldType.int) : Cond) ∈ gw := gw_t 1057 (by decide +kernel) rfl
set_option maxRecDepth 100000 in
theorem tw1058 : (.methodLink "FamilyChartLaw" 183 ⟨"FamilyChart", "improve", "(I)I"⟩ : Cond) ∈ gw := gw_t 1058 (by decide +kernel) rfl
set_option maxRecDepth 100000 in
theorem tw1059 : (.instanceMethod ⟨"FamilyChart", "improve", "(I)I"⟩ : Cond) ∈ gw := gw_t 1059 (by decide +kernel) rfl
set_option maxRecDepth 100000 in
theorem tw1060 : (.selects "FamilyChart" ⟨"FamilyChart", "improve", "(I)I"⟩ ⟨"FamilyChart", "improve", "(I)I"⟩ : Cond) ∈ gw := gw_t 1060 (by decide +kernel) rfl
set_option maxRecDepth 100000 in
theorem tw1061 : (.code ⟨"FamilyChart", "improve", "(I)I"⟩ prog_1_method_33_code 5 (Option.some ClassFile.FieldType.int) : Cond) ∈ gw := gw_t 1061 (by decide +kernel) rfl
set_option maxRecDepth 100000 in
theorem tw1063 : (.methodLink "FamilyChart" 331 ⟨"FamilyChart$Rows", "swapWhereBetter", "()I"⟩ : Cond) ∈ gw := gw_t 1063 (by decide +kernel) rfl
set_option maxRecDepth 100000 in
theorem tw1064 : (.instanceMethod ⟨"FamilyChart$Rows", "swapWhereBetter", "()I"⟩ : Cond) ∈ gw := gw_t 1064 (by decide +kernel) rfl
set_option maxRecDepth 100000 in
theorem tw1065 : (.selects "FamilyChart$Rows" ⟨"FamilyChart$Rows", "swapWhereBetter", "()I"⟩ ⟨"FamilyChart$Rows", "swapWhereBetter", "()I"⟩ : Cond) ∈ gw := gw_t 1065 (by decide +kernel) rfl
set_option maxRecDepth 100000 in
theorem tw1066 : (.code ⟨"FamilyChart$Rows", "swapWhereBetter", "()I"⟩ prog_9_method_21_code 6 (Option.some ClassFile.FieldType.int) : Cond) ∈ gw := gw_t 1066 (by decide +kernel) rfl
set_option maxRecDepth 100000 in
theorem tw1067 : (.methodLink "FamilyChart$Rows" 130 ⟨"FamilyChart$Rows", "countCrossingsAround", "(I)I"⟩ : Cond) ∈ gw := gw_t 1067 (by decide +kernel) rfl
set_option maxRecDepth 100000 in
theorem tw1069 : (.instanceMethod ⟨"FamilyChart$Rows", "countCrossingsAround", "(I)I"⟩ : Cond) ∈ gw := gw_t 1069 (by decide +kernel) rfl
set_option maxRecDepth 100000 in
theorem tw1070 : (.code ⟨"FamilyChart$Rows", "countCrossingsAround", "(I)I"⟩ prog_9_method_22_code 2 (Option.some ClassFile.FieldType.int) : Cond) ∈ gw := gw_t 1070 (by decide +kernel) rfl
set_option maxRecDepth 100000 in
theorem tw1071 : (.methodLink "FamilyChart$Rows" 133 ⟨"FamilyChart$Rows", "exchange", "(III)V"⟩ : Cond) ∈ gw := gw_t 1071 (by decide +kernel) rfl
set_option maxRecDepth 100000 in
theorem tw1074 : (.instanceMethod ⟨"FamilyChartLaw$Own", "improve", "(I)I"⟩ : Cond) ∈ gw := gw_t 1074 (by decide +kernel) rfl
set_option maxRecDepth 100000 in
theorem tw1075 : (.code ⟨"FamilyChartLaw$Own", "improve", "(I)I"⟩ prog_12_method_22_code 8 (Option.some ClassFile.FieldType.int) : Cond) ∈ gw := gw_t 1075 (by decide +kernel) rfl
set_option maxRecDepth 100000 in
theorem tw1076 : (.methodLink "FamilyChartLaw$Own" 107 ⟨"FamilyChartLaw$Own", "all", "()I"⟩ : Cond) ∈ gw := gw_t 1076 (by decide +kernel) rfl
set_option maxRecDepth 100000 in
theorem tw1077 : (.methodLink "FamilyChartLaw$Own" 111 ⟨"FamilyChartLaw$Own", "turn", "(III)V"⟩ : Cond) ∈ gw := gw_t 1077 (by decide +kernel) rfl
set_option maxRecDepth 100000 in
theorem tw1080 : (.instanceMethod ⟨"FamilyChartLaw$Own", "arrange", "()V"⟩ : Cond) ∈ gw := gw_t 1080 (by decide +kernel) rfl
set_option maxRecDepth 100000 in
theorem tw1081 : (.code ⟨"FamilyChartLaw$Own", "arrange", "()V"⟩ prog_12_method_21_code 8 (Option.none : Option ClassFile.FieldType) : Cond) ∈ gw := gw_t 1081 (by decide +kernel) rfl
set_option maxRecDepth 100000 in
theorem tw1082 : (.methodLink "FamilyChartLaw$Own" 104 ⟨"FamilyChartLaw$Own", "key", "(I)I"⟩ : Cond) ∈ gw := gw_t 1082 (by decide +kernel) rfl
set_option maxRecDepth 100000 in
theorem tw1084 : (.instanceMethod ⟨"FamilyChartLaw$Own", "key", "(I)I"⟩ : Cond) ∈ gw := gw_t 1084 (by decide +kernel) rfl
set_option maxRecDepth 100000 in
theorem tw1085 : (.code ⟨"FamilyChartLaw$Own", "key", "(I)I"⟩ prog_12_method_20_code 2 (Option.some ClassFile.FieldType.int) : Cond) ∈ gw := gw_t 1085 (by decide +kernel) rfl
set_option maxRecDepth 100000 in
theorem tw1086 : (.methodLink "FamilyChartLaw" 190 ⟨"FamilyChart", "arrange", "()I"⟩ : Cond) ∈ gw := gw_t 1086 (by decide +kernel) rfl
set_option maxRecDepth 100000 in
theorem tw1087 : (.instanceMethod ⟨"FamilyChart", "arrange", "()I"⟩ : Cond) ∈ gw := gw_t 1087 (by decide +kernel) rfl
set_option maxRecDepth 100000 in
theorem tw1088 : (.selects "FamilyChart" ⟨"FamilyChart", "arrange", "()I"⟩ ⟨"FamilyChart", "arrange", "()I"⟩ : Cond) ∈ gw := gw_t 1088 (by decide +kernel) rfl
set_option maxRecDepth 100000 in
theorem tw1089 : (.code ⟨"FamilyChart", "arrange", "()I"⟩ prog_1_method_34_code 1 (Option.some ClassFile.FieldType.int) : Cond) ∈ gw := gw_t 1089 (by decide +kernel) rfl
set_option maxRecDepth 100000 in
theorem tw1090 : (.methodLink "FamilyChart" 334 ⟨"FamilyChart$Rows", "sortByKeys", "()V"⟩ : Cond) ∈ gw := gw_t 1090 (by decide +kernel) rfl
set_option maxRecDepth 100000 in
theorem tw1091 : (.instanceMethod ⟨"FamilyChart$Rows", "sortByKeys", "()V"⟩ : Cond) ∈ gw := gw_t 1091 (by decide +kernel) rfl
set_option maxRecDepth 100000 in
theorem tw1092 : (.selects "FamilyChart$Rows" ⟨"FamilyChart$Rows", "sortByKeys", "()V"⟩ ⟨"FamilyChart$Rows", "sortByKeys", "()V"⟩ : Cond) ∈ gw := gw_t 1092 (by decide +kernel) rfl
set_option maxRecDepth 100000 in
theorem tw1093 : (.code ⟨"FamilyChart$Rows", "sortByKeys", "()V"⟩ prog_9_method_23_code 4 (Option.none : Option ClassFile.FieldType) : Cond) ∈ gw := gw_t 1093 (by decide +kernel) rfl
set_option maxRecDepth 100000 in
theorem tw1094 : (.methodLink "FamilyChart$Rows" 137 ⟨"FamilyChart$Rows", "keyOf", "(II)I"⟩ : Cond) ∈ gw := gw_t 1094 (by decide +kernel) rfl
set_option maxRecDepth 100000 in
theorem tw1096 : (.instanceMethod ⟨"FamilyChart$Rows", "keyOf", "(II)I"⟩ : Cond) ∈ gw := gw_t 1096 (by decide +kernel) rfl
set_option maxRecDepth 100000 in
theorem tw1097 : (.code ⟨"FamilyChart$Rows", "keyOf", "(II)I"⟩ prog_9_method_24_code 6 (Option.some ClassFile.FieldType.int) : Cond) ∈ gw := gw_t 1097 (by decide +kernel) rfl
set_option maxRecDepth 100000 in
theorem tw1099 : (.static ⟨"FamilyChart", "unionOfReference", "(I)I"⟩ : Cond) ∈ gw := gw_t 1099 (by decide +kernel) rfl
set_option maxRecDepth 100000 in
theorem tw1100 : (.code ⟨"FamilyChart", "unionOfReference", "(I)I"⟩ prog_1_method_52_code 1 (Option.some ClassFile.FieldType.int) : Cond) ∈ gw := gw_t 1100 (by decide +kernel) rfl
set_option maxRecDepth 100000 in
theorem tw1101 : (.methodLink "FamilyChart$Rows" 144 ⟨"FamilyChart$Rows", "personOf", "(I)I"⟩ : Cond) ∈ gw := gw_t 1101 (by decide +kernel) rfl
set_option maxRecDepth 100000 in
theorem tw1102 : (.instanceMethod ⟨"FamilyChart$Rows", "personOf", "(I)I"⟩ : Cond) ∈ gw := gw_t 1102 (by decide +kernel) rfl
set_option maxRecDepth 100000 in
theorem tw1103 : (.selects "FamilyChart$Rows" ⟨"FamilyChart$Rows", "personOf", "(I)I"⟩ ⟨"FamilyChart$Rows", "personOf", "(I)I"⟩ : Cond) ∈ gw := gw_t 1103 (by decide +kernel) rfl
set_option maxRecDepth 100000 in
theorem tw1104 : (.code ⟨"FamilyChart$Rows", "personOf", "(I)I"⟩ prog_9_method_11_code 2 (Option.some ClassFile.FieldType.int) : Cond) ∈ gw := gw_t 1104 (by decide +kernel) rfl
set_option maxRecDepth 100000 in
theorem tw1105 : (.methodLink "FamilyChart$Rows" 147 ⟨"FamilyChart$Family", "otherPartner", "(II)I"⟩ : Cond) ∈ gw := gw_t 1105 (by decide +kernel) rfl
set_option maxRecDepth 100000 in
theorem tw1106 : (.instanceMethod ⟨"FamilyChart$Family", "otherPartner", "(II)I"⟩ : Cond) ∈ gw := gw_t 1106 (by decide +kernel) rfl
set_option maxRecDepth 100000 in
theorem tw1107 : (.selects "FamilyChart$Family" ⟨"FamilyChart$Family", "otherPartner", "(II)I"⟩ ⟨"FamilyChart$Family", "otherPartner", "(II)I"⟩ : Cond) ∈ gw := gw_t 1107 (by decide +kernel) rfl
set_option maxRecDepth 100000 in
theorem tw1108 : (.code ⟨"FamilyChart$Family", "otherPartner", "(II)I"⟩ prog_3_method_16_code 4 (Option.some ClassFile.FieldType.int) : Cond) ∈ gw := gw_t 1108 (by decide +kernel) rfl
set_option maxRecDepth 100000 in
theorem tw1109 : (.methodLink "FamilyChart$Rows" 150 ⟨"FamilyChart$Family", "hasParents", "(I)Z"⟩ : Cond) ∈ gw := gw_t 1109 (by decide +kernel) rfl
set_option maxRecDepth 100000 in
theorem tw1110 : (.methodLink "FamilyChart$Rows" 140 ⟨"FamilyChart$Rows", "sortRow", "(I)V"⟩ : Cond) ∈ gw := gw_t 1110 (by decide +kernel) rfl
set_option maxRecDepth 100000 in
theorem tw1112 : (.instanceMethod ⟨"FamilyChart$Rows", "sortRow", "(I)V"⟩ : Cond) ∈ gw := gw_t 1112 (by decide +kernel) rfl
set_option maxRecDepth 100000 in
theorem tw1113 : (.code ⟨"FamilyChart$Rows", "sortRow", "(I)V"⟩ prog_9_method_25_code 4 (Option.none : Option ClassFile.FieldType) : Cond) ∈ gw := gw_t 1113 (by decide +kernel) rfl
set_option maxRecDepth 100000 in
theorem tw1114 : (.methodLink "FamilyChart$Rows" 154 ⟨"FamilyChart$Rows", "keyAt", "(II)I"⟩ : Cond) ∈ gw := gw_t 1114 (by decide +kernel) rfl
set_option maxRecDepth 100000 in
theorem tw1116 : (.instanceMethod ⟨"FamilyChart$Rows", "keyAt", "(II)I"⟩ : Cond) ∈ gw := gw_t 1116 (by decide +kernel) rfl
set_option maxRecDepth 100000 in
theorem tw1117 : (.code ⟨"FamilyChart$Rows", "keyAt", "(II)I"⟩ prog_9_method_26_code 3 (Option.some ClassFile.FieldType.int) : Cond) ∈ gw := gw_t 1117 (by decide +kernel) rfl
set_option maxRecDepth 100000 in
theorem tw1118 : (.methodLink "FamilyChartLaw" 237 ⟨"FamilyChartLaw", "all", "(LFamilyChart;)J"⟩ : Cond) ∈ gw := gw_t 1118 (by decide +kernel) rfl
set_option maxRecDepth 100000 in
theorem tw1119 : (.static ⟨"FamilyChartLaw", "all", "(LFamilyChart;)J"⟩ : Cond) ∈ gw := gw_t 1119 (by decide +kernel) rfl
set_option maxRecDepth 100000 in
theorem tw1120 : (.code ⟨"FamilyChartLaw", "all", "(LFamilyChart;)J"⟩ method_18_code 4 (Option.some ClassFile.FieldType.long) : Cond) ∈ gw := gw_t 1120 (by decide +kernel) rfl
set_option maxRecDepth 100000 in
theorem tw1121 : (.constantLong "FamilyChartLaw" 193 (7 : Int64) : Cond) ∈ gw := gw_t 1121 (by decide +kernel) rfl
set_option maxRecDepth 100000 in
theorem tw1122 : (.methodLink "FamilyChartLaw" 117 ⟨"FamilyChart", "crossings", "()I"⟩ : Cond) ∈ gw := gw_t 1122 (by decide +kernel) rfl
set_option maxRecDepth 100000 in
theorem tw1123 : (.instanceMethod ⟨"FamilyChart", "crossings", "()I"⟩ : Cond) ∈ gw := gw_t 1123 (by decide +kernel) rfl
set_option maxRecDepth 100000 in
theorem tw1124 : (.selects "FamilyChart" ⟨"FamilyChart", "crossings", "()I"⟩ ⟨"FamilyChart", "crossings", "()I"⟩ : Cond) ∈ gw := gw_t 1124 (by decide +kernel) rfl
set_option maxRecDepth 100000 in
theorem tw1125 : (.code ⟨"FamilyChart", "crossings", "()I"⟩ prog_1_method_19_code 1 (Option.some ClassFile.FieldType.int) : Cond) ∈ gw := gw_t 1125 (by decide +kernel) rfl
set_option maxRecDepth 100000 in
theorem tw1126 : (.constantLong "FamilyChartLaw" 195 (31 : Int64) : Cond) ∈ gw := gw_t 1126 (by decide +kernel) rfl
set_option maxRecDepth 100000 in
theorem tw1127 : (.methodLink "FamilyChartLaw" 129 ⟨"FamilyChart", "place", "(I)I"⟩ : Cond) ∈ gw := gw_t 1127 (by decide +kernel) rfl
set_option maxRecDepth 100000 in
theorem tw1128 : (.instanceMethod ⟨"FamilyChart", "place", "(I)I"⟩ : Cond) ∈ gw := gw_t 1128 (by decide +kernel) rfl
set_option maxRecDepth 100000 in
theorem tw1129 : (.selects "FamilyChart" ⟨"FamilyChart", "place", "(I)I"⟩ ⟨"FamilyChart", "place", "(I)I"⟩ : Cond) ∈ gw := gw_t 1129 (by decide +kernel) rfl
set_option maxRecDepth 100000 in
theorem tw1130 : (.code ⟨"FamilyChart", "place", "(I)I"⟩ prog_1_method_18_code 2 (Option.some ClassFile.FieldType.int) : Cond) ∈ gw := gw_t 1130 (by decide +kernel) rfl
set_option maxRecDepth 100000 in
theorem tw1131 : (.methodLink "FamilyChartLaw" 123 ⟨"FamilyChart", "person", "(II)I"⟩ : Cond) ∈ gw := gw_t 1131 (by decide +kernel) rfl
set_option maxRecDepth 100000 in
theorem tw1132 : (.instanceMethod ⟨"FamilyChart", "person", "(II)I"⟩ : Cond) ∈ gw := gw_t 1132 (by decide +kernel) rfl
set_option maxRecDepth 100000 in
theorem tw1133 : (.selects "FamilyChart" ⟨"FamilyChart", "person", "(II)I"⟩ ⟨"FamilyChart", "person", "(II)I"⟩ : Cond) ∈ gw := gw_t 1133 (by decide +kernel) rfl
set_option maxRecDepth 100000 in
theorem tw1134 : (.code ⟨"FamilyChart", "person", "(II)I"⟩ prog_1_method_6_code 3 (Option.some ClassFile.FieldType.int) : Cond) ∈ gw := gw_t 1134 (by decide +kernel) rfl
set_option maxRecDepth 100000 in
theorem tw1135 : (.methodLink "FamilyChart" 156 ⟨"FamilyChart$Family", "countUnionsOf", "(I)I"⟩ : Cond) ∈ gw := gw_t 1135 (by decide +kernel) rfl
set_option maxRecDepth 100000 in
theorem tw1136 : (.instanceMethod ⟨"FamilyChart$Family", "countUnionsOf", "(I)I"⟩ : Cond) ∈ gw := gw_t 1136 (by decide +kernel) rfl
set_option maxRecDepth 100000 in
theorem tw1137 : (.selects "FamilyChart$Family" ⟨"FamilyChart$Family", "countUnionsOf", "(I)I"⟩ ⟨"FamilyChart$Family", "countUnionsOf", "(I)I"⟩ : Cond) ∈ gw := gw_t 1137 (by decide +kernel) rfl
set_option maxRecDepth 100000 in
theorem tw1138 : (.code ⟨"FamilyChart$Family", "countUnionsOf", "(I)I"⟩ prog_3_method_23_code 4 (Option.some ClassFile.FieldType.int) : Cond) ∈ gw := gw_t 1138 (by decide +kernel) rfl
set_option maxRecDepth 100000 in
theorem tw1140 : (.methodLink "FamilyChartLaw" 134 ⟨"FamilyChart", "union", "(II)I"⟩ : Cond) ∈ gw := gw_t 1140 (by decide +kernel) rfl
set_option maxRecDepth 100000 in
theorem tw1141 : (.instanceMethod ⟨"FamilyChart", "union", "(II)I"⟩ : Cond) ∈ gw := gw_t 1141 (by decide +kernel) rfl
set_option maxRecDepth 100000 in
theorem tw1142 : (.selects "FamilyChart" ⟨"FamilyChart", "union", "(II)I"⟩ ⟨"FamilyChart", "union", "(II)I"⟩ : Cond) ∈ gw := gw_t 1142 (by decide +kernel) rfl
set_option maxRecDepth 100000 in
theorem tw1143 : (.code ⟨"FamilyChart", "union", "(II)I"⟩ prog_1_method_7_code 3 (Option.some ClassFile.FieldType.int) : Cond) ∈ gw := gw_t 1143 (by decide +kernel) rfl
set_option maxRecDepth 100000 in
theorem tw1144 : (.methodLink "FamilyChart" 182 ⟨"FamilyChart$Family", "childMask", "(I)I"⟩ : Cond) ∈ gw := gw_t 1144 (by decide +kernel) rfl
set_option maxRecDepth 100000 in
theorem tw1145 : (.methodLink "FamilyChart" 185 ⟨"java/lang/Integer", "bitCount", "(I)I"⟩ : Cond) ∈ gw := gw_t 1145 (by decide +kernel) rfl
set_option maxRecDepth 100000 in
theorem tw1146 : (.static ⟨"java/lang/Integer", "bitCount", "(I)I"⟩ : Cond) ∈ gw := gw_t 1146 (by decide +kernel) rfl
set_option maxRecDepth 100000 in
theorem tw1147 : (.code ⟨"java/lang/Integer", "bitCount", "(I)I"⟩ prog_19_method_49_code 1 (Option.some ClassFile.FieldType.int) : Cond) ∈ gw := gw_t 1147 (by decide +kernel) rfl
set_option maxRecDepth 100000 in
theorem tw1148 : (.constant "java/lang/Integer" 265 (1431655765 : Int32) : Cond) ∈ gw := gw_t 1148 (by decide +kernel) rfl
set_option maxRecDepth 100000 in
theorem tw1149 : (.constant "java/lang/Integer" 266 (858993459 : Int32) : Cond) ∈ gw := gw_t 1149 (by decide +kernel) rfl
set_option maxRecDepth 100000 in
theorem tw1150 : (.constant "java/lang/Integer" 267 (252645135 : Int32) : Cond) ∈ gw := gw_t 1150 (by decide +kernel) rfl
set_option maxRecDepth 100000 in
theorem tw1151 : (.methodLink "FamilyChart" 190 ⟨"FamilyChart$Rows", "middleOf", "(I)I"⟩ : Cond) ∈ gw := gw_t 1151 (by decide +kernel) rfl
set_option maxRecDepth 100000 in
theorem tw1152 : (.methodLink "FamilyChart" 193 ⟨"FamilyChart$Columns", "layOut", "()V"⟩ : Cond) ∈ gw := gw_t 1152 (by decide +kernel) rfl
set_option maxRecDepth 100000 in
theorem tw1153 : (.instanceMethod ⟨"FamilyChart$Columns", "layOut", "()V"⟩ : Cond) ∈ gw := gw_t 1153 (by decide +kernel) rfl
set_option maxRecDepth 100000 in
theorem tw1154 : (.selects "FamilyChart$Columns" ⟨"FamilyChart$Columns", "layOut", "()V"⟩ ⟨"FamilyChart$Columns", "layOut", "()V"⟩ : Cond) ∈ gw := gw_t 1154 (by decide +kernel) rfl
set_option maxRecDepth 100000 in
theorem tw1155 : (.code ⟨"FamilyChart$Columns", "layOut", "()V"⟩ prog_2_method_2_code 6 (Option.none : Option ClassFile.FieldType) : Cond) ∈ gw := gw_t 1155 (by decide +kernel) rfl
set_option maxRecDepth 100000 in
theorem tw1156 : (.methodLink "FamilyChart$Columns" 32 ⟨"FamilyChart$Rows", "boxCountOf", "(I)I"⟩ : Cond) ∈ gw := gw_t 1156 (by decide +kernel) rfl
set_option maxRecDepth 100000 in
theorem tw1157 : (.methodLink "FamilyChart$Columns" 38 ⟨"FamilyChart$Rows", "boxAt", "(II)I"⟩ : Cond) ∈ gw := gw_t 1157 (by decide +kernel) rfl
set_option maxRecDepth 100000 in
theorem tw1158 : (.methodLink "FamilyChart$Columns" 42 ⟨"FamilyChart$Columns", "wantedColumn", "(I)I"⟩ : Cond) ∈ gw := gw_t 1158 (by decide +kernel) rfl
set_option maxRecDepth 100000 in
theorem tw1160 : (.instanceMethod ⟨"FamilyChart$Columns", "wantedColumn", "(I)I"⟩ : Cond) ∈ gw := gw_t 1160 (by decide +kernel) rfl
set_option maxRecDepth 100000 in
theorem tw1161 : (.code ⟨"FamilyChart$Columns", "wantedColumn", "(I)I"⟩ prog_2_method_3_code 2 (Option.some ClassFile.FieldType.int) : Cond) ∈ gw := gw_t 1161 (by decide +kernel) rfl
set_option maxRecDepth 100000 in
theorem tw1162 : (.methodLink "FamilyChart$Columns" 57 ⟨"FamilyChart$Family", "hasParents", "(I)Z"⟩ : Cond) ∈ gw := gw_t 1162 (by decide +kernel) rfl
set_option maxRecDepth 100000 in
theorem tw1164 : (.methodLink "FamilyChart$Columns" 68 ⟨"FamilyChart$Columns", "middleOfUnion", "(I)I"⟩ : Cond) ∈ gw := gw_t 1164 (by decide +kernel) rfl
set_option maxRecDepth 100000 in
theorem tw1165 : (.instanceMethod ⟨"FamilyChart$Columns", "middleOfUnion", "(I)I"⟩ : Cond) ∈ gw := gw_t 1165 (by decide +kernel) rfl
set_option maxRecDepth 100000 in
theorem tw1166 : (.selects "FamilyChart$Columns" ⟨"FamilyChart$Columns", "middleOfUnion", "(I)I"⟩ ⟨"FamilyChart$Columns", "middleOfUnion", "(I)I"⟩ : Cond) ∈ gw := gw_t 1166 (by decide +kernel) rfl
set_option maxRecDepth 100000 in
theorem tw1167 : (.code ⟨"FamilyChart$Columns", "middleOfUnion", "(I)I"⟩ prog_2_method_5_code 4 (Option.some ClassFile.FieldType.int) : Cond) ∈ gw := gw_t 1167 (by decide +kernel) rfl
set_option maxRecDepth 100000 in
theorem tw1168 : (.methodLink "FamilyChart$Columns" 54 ⟨"FamilyChart$Columns", "widthOf", "(I)I"⟩ : Cond) ∈ gw := gw_t 1168 (by decide +kernel) rfl
set_option maxRecDepth 100000 in
theorem tw1169 : (.instanceMethod ⟨"FamilyChart$Columns", "widthOf", "(I)I"⟩ : Cond) ∈ gw := gw_t 1169 (by decide +kernel) rfl
set_option maxRecDepth 100000 in
theorem tw1170 : (.selects "FamilyChart$Columns" ⟨"FamilyChart$Columns", "widthOf", "(I)I"⟩ ⟨"FamilyChart$Columns", "widthOf", "(I)I"⟩ : Cond) ∈ gw := gw_t 1170 (by decide +kernel) rfl
set_option maxRecDepth 100000 in
theorem tw1171 : (.code ⟨"FamilyChart$Columns", "widthOf", "(I)I"⟩ prog_2_method_4_code 2 (Option.some ClassFile.FieldType.int) : Cond) ∈ gw := gw_t 1171 (by decide +kernel) rfl
set_option maxRecDepth 100000 in
theorem tw1172 : (.methodLink "FamilyChart$Columns" 74 ⟨"FamilyChart$Rows", "personOf", "(I)I"⟩ : Cond) ∈ gw := gw_t 1172 (by decide +kernel) rfl
set_option maxRecDepth 100000 in
theorem tw1173 : (.methodLink "FamilyChart$Columns" 45 ⟨"java/lang/Math", "max", "(II)I"⟩ : Cond) ∈ gw := gw_t 1173 (by decide +kernel) rfl
set_option maxRecDepth 100000 in
theorem tw1175 : (.methodLink "FamilyChart" 196 ⟨"FamilyChart$Columns", "middleOfUnion", "(I)I"⟩ : Cond) ∈ gw := gw_t 1175 (by decide +kernel) rfl
set_option maxRecDepth 100000 in
theorem tw1177 : (.methodLink "FamilyChartLaw" 148 ⟨"FamilyChart", "children", "(I)I"⟩ : Cond) ∈ gw := gw_t 1177 (by decide +kernel) rfl
set_option maxRecDepth 100000 in
theorem tw1178 : (.instanceMethod ⟨"FamilyChart", "children", "(I)I"⟩ : Cond) ∈ gw := gw_t 1178 (by decide +kernel) rfl
set_option maxRecDepth 100000 in
theorem tw1179 : (.selects "FamilyChart" ⟨"FamilyChart", "children", "(I)I"⟩ ⟨"FamilyChart", "children", "(I)I"⟩ : Cond) ∈ gw := gw_t 1179 (by decide +kernel) rfl
set_option maxRecDepth 100000 in
theorem tw1180 : (.code ⟨"FamilyChart", "children", "(I)I"⟩ prog_1_method_8_code 2 (Option.some ClassFile.FieldType.int) : Cond) ∈ gw := gw_t 1180 (by decide +kernel) rfl
set_option maxRecDepth 100000 in
theorem tw1181 : (.methodLink "FamilyChartLaw" 255 ⟨"FamilyChartLaw", "isSound", "(LFamilyChart;)Z"⟩ : Cond) ∈ gw := gw_t 1181 (by decide +kernel) rfl
set_option maxRecDepth 100000 in
theorem tw1182 : (.static ⟨"FamilyChartLaw", "isSound", "(LFamilyChart;)Z"⟩ : Cond) ∈ gw := gw_t 1182 (by decide +kernel) rfl
set_option maxRecDepth 100000 in
theorem tw1183 : (.code ⟨"FamilyChartLaw", "isSound", "(LFamilyChart;)Z"⟩ method_19_code 8 (Option.some ClassFile.FieldType.boolean) : Cond) ∈ gw := gw_t 1183 (by decide +kernel) rfl
set_option maxRecDepth 100000 in
theorem tw1184 : (.methodLink "FamilyChartLaw" 197 ⟨"FamilyChart", "ancestors", "(I)I"⟩ : Cond) ∈ gw := gw_t 1184 (by decide +kernel) rfl
set_option maxRecDepth 100000 in
theorem tw1185 : (.instanceMethod ⟨"FamilyChart", "ancestors", "(I)I"⟩ : Cond) ∈ gw := gw_t 1185 (by decide +kernel) rfl
set_option maxRecDepth 100000 in
theorem tw1186 : (.selects "FamilyChart" ⟨"FamilyChart", "ancestors", "(I)I"⟩ ⟨"FamilyChart", "ancestors", "(I)I"⟩ : Cond) ∈ gw := gw_t 1186 (by decide +kernel) rfl
set_option maxRecDepth 100000 in
theorem tw1187 : (.code ⟨"FamilyChart", "ancestors", "(I)I"⟩ prog_1_method_9_code 2 (Option.some ClassFile.FieldType.int) : Cond) ∈ gw := gw_t 1187 (by decide +kernel) rfl
set_option maxRecDepth 100000 in
theorem tw1188 : (.methodLink "FamilyChartLaw" 200 ⟨"FamilyChart", "descendants", "(I)I"⟩ : Cond) ∈ gw := gw_t 1188 (by decide +kernel) rfl
set_option maxRecDepth 100000 in
theorem tw1189 : (.instanceMethod ⟨"FamilyChart", "descendants", "(I)I"⟩ : Cond) ∈ gw := gw_t 1189 (by decide +kernel) rfl
set_option maxRecDepth 100000 in
theorem tw1190 : (.selects "FamilyChart" ⟨"FamilyChart", "descendants", "(I)I"⟩ ⟨"FamilyChart", "descendants", "(I)I"⟩ : Cond) ∈ gw := gw_t 1190 (by decide +kernel) rfl
set_option maxRecDepth 100000 in
theorem tw1191 : (.code ⟨"FamilyChart", "descendants", "(I)I"⟩ prog_1_method_10_code 2 (Option.some ClassFile.FieldType.int) : Cond) ∈ gw := gw_t 1191 (by decide +kernel) rfl
set_option maxRecDepth 100000 in
theorem tw1192 : (.methodLink "FamilyChart" 204 ⟨"FamilyChart$Family", "descendantMask", "(I)I"⟩ : Cond) ∈ gw := gw_t 1192 (by decide +kernel) rfl
set_option maxRecDepth 100000 in
theorem tw1193 : (.instanceMethod ⟨"FamilyChart$Family", "descendantMask", "(I)I"⟩ : Cond) ∈ gw := gw_t 1193 (by decide +kernel) rfl
set_option maxRecDepth 100000 in
theorem tw1194 : (.selects "FamilyChart$Family" ⟨"FamilyChart$Family", "descendantMask", "(I)I"⟩ ⟨"FamilyChart$Family", "descendantMask", "(I)I"⟩ : Cond) ∈ gw := gw_t 1194 (by decide +kernel) rfl
set_option maxRecDepth 100000 in
theorem tw1195 : (.code ⟨"FamilyChart$Family", "descendantMask", "(I)I"⟩ prog_3_method_22_code 4 (Option.some ClassFile.FieldType.int) : Cond) ∈ gw := gw_t 1195 (by decide +kernel) rfl
set_option maxRecDepth 100000 in
theorem tw1196 : (.methodLink "FamilyChartLaw" 157 ⟨"FamilyChart", "box", "(III)I"⟩ : Cond) ∈ gw := gw_t 1196 (by decide +kernel) rfl
set_option maxRecDepth 100000 in
theorem tw1197 : (.instanceMethod ⟨"FamilyChart", "box", "(III)I"⟩ : Cond) ∈ gw := gw_t 1197 (by decide +kernel) rfl
set_option maxRecDepth 100000 in
theorem tw1198 : (.selects "FamilyChart" ⟨"FamilyChart", "box", "(III)I"⟩ ⟨"FamilyChart", "box", "(III)I"⟩ : Cond) ∈ gw := gw_t 1198 (by decide +kernel) rfl
set_option maxRecDepth 100000 in
theorem tw1199 : (.code ⟨"FamilyChart", "box", "(III)I"⟩ prog_1_method_17_code 5 (Option.some ClassFile.FieldType.int) : Cond) ∈ gw := gw_t 1199 (by decide +kernel) rfl
set_option maxRecDepth 100000 in
theorem tw1200 : (.methodLink "FamilyChart" 239 ⟨"FamilyChart$Rows", "boxAt", "(II)I"⟩ : Cond) ∈ gw := gw_t 1200 (by decide +kernel) rfl
set_option maxRecDepth 100000 in
theorem tw1201 : (.methodLink "FamilyChart" 242 ⟨"FamilyChart$Rows", "personOf", "(I)I"⟩ : Cond) ∈ gw := gw_t 1201 (by decide +kernel) rfl
set_option maxRecDepth 100000 in
theorem tw1202 : (.methodLink "FamilyChart" 245 ⟨"FamilyChart", "unionOfReference", "(I)I"⟩ : Cond) ∈ gw := gw_t 1202 (by decide +kernel) rfl
set_option maxRecDepth 100000 in
theorem tw1203 : (.methodLink "FamilyChart" 251 ⟨"FamilyChart$Columns", "widthOf", "(I)I"⟩ : Cond) ∈ gw := gw_t 1203 (by decide +kernel) rfl
set_option maxRecDepth 100000 in
theorem tw1205 : (.methodLink "FamilyChartLaw" 203 ⟨"FamilyChart", "kinship", "(II)J"⟩ : Cond) ∈ gw := gw_t 1205 (by decide +kernel) rfl
set_option maxRecDepth 100000 in
theorem tw1206 : (.instanceMethod ⟨"FamilyChart", "kinship", "(II)J"⟩ : Cond) ∈ gw := gw_t 1206 (by decide +kernel) rfl
set_option maxRecDepth 100000 in
theorem tw1207 : (.selects "FamilyChart" ⟨"FamilyChart", "kinship", "(II)J"⟩ ⟨"FamilyChart", "kinship", "(II)J"⟩ : Cond) ∈ gw := gw_t 1207 (by decide +kernel) rfl
set_option maxRecDepth 100000 in
theorem tw1208 : (.code ⟨"FamilyChart", "kinship", "(II)J"⟩ prog_1_method_11_code 3 (Option.some ClassFile.FieldType.long) : Cond) ∈ gw := gw_t 1208 (by decide +kernel) rfl
set_option maxRecDepth 100000 in
theorem tw1209 : (.methodLink "FamilyChart" 207 ⟨"FamilyChart$Relations", "noteKinships", "()V"⟩ : Cond) ∈ gw := gw_t 1209 (by decide +kernel) rfl
set_option maxRecDepth 100000 in
theorem tw1210 : (.instanceMethod ⟨"FamilyChart$Relations", "noteKinships", "()V"⟩ : Cond) ∈ gw := gw_t 1210 (by decide +kernel) rfl
set_option maxRecDepth 100000 in
theorem tw1211 : (.selects "FamilyChart$Relations" ⟨"FamilyChart$Relations", "noteKinships", "()V"⟩ ⟨"FamilyChart$Relations", "noteKinships", "()V"⟩ : Cond) ∈ gw := gw_t 1211 (by decide +kernel) rfl
set_option maxRecDepth 100000 in
theorem tw1212 : (.code ⟨"FamilyChart$Relations", "noteKinships", "()V"⟩ prog_8_method_4_code 3 (Option.none : Option ClassFile.FieldType) : Cond) ∈ gw := gw_t 1212 (by decide +kernel) rfl
set_option maxRecDepth 100000 in
theorem tw1214 : (.methodLink "FamilyChart$Relations" 42 ⟨"FamilyChart$Relations", "noteKinshipsOf", "(II)V"⟩ : Cond) ∈ gw := gw_t 1214 (by decide +kernel) rfl
set_option maxRecDepth 100000 in
theorem tw1216 : (.instanceMethod ⟨"FamilyChart$Relations", "noteKinshipsOf", "(II)V"⟩ : Cond) ∈ gw := gw_t 1216 (by decide +kernel) rfl
set_option maxRecDepth 100000 in
theorem tw1217 : (.code ⟨"FamilyChart$Relations", "noteKinshipsOf", "(II)V"⟩ prog_8_method_5_code 9 (Option.none : Option ClassFile.FieldType) : Cond) ∈ gw := gw_t 1217 (by decide +kernel) rfl
set_option maxRecDepth 100000 in
theorem tw1218 : (.methodLink "FamilyChart$Relations" 46 ⟨"FamilyChart$Family", "firstParent", "(I)I"⟩ : Cond) ∈ gw := gw_t 1218 (by decide +kernel) rfl
set_option maxRecDepth 100000 in
theorem tw1219 : (.methodLink "FamilyChart$Relations" 50 ⟨"FamilyChart$Family", "secondParent", "(I)I"⟩ : Cond) ∈ gw := gw_t 1219 (by decide +kernel) rfl
set_option maxRecDepth 100000 in
theorem tw1220 : (.methodLink "FamilyChart$Relations" 53 ⟨"FamilyChart$Relations", "kinshipOf", "(II)J"⟩ : Cond) ∈ gw := gw_t 1220 (by decide +kernel) rfl
set_option maxRecDepth 100000 in
theorem tw1221 : (.instanceMethod ⟨"FamilyChart$Relations", "kinshipOf", "(II)J"⟩ : Cond) ∈ gw := gw_t 1221 (by decide +kernel) rfl
set_option maxRecDepth 100000 in
theorem tw1222 : (.selects "FamilyChart$Relations" ⟨"FamilyChart$Relations", "kinshipOf", "(II)J"⟩ ⟨"FamilyChart$Relations", "kinshipOf", "(II)J"⟩ : Cond) ∈ gw := gw_t 1222 (by decide +kernel) rfl
set_option maxRecDepth 100000 in
theorem tw1223 : (.code ⟨"FamilyChart$Relations", "kinshipOf", "(II)J"⟩ prog_8_method_2_code 4 (Option.some ClassFile.FieldType.long) : Cond) ∈ gw := gw_t 1223 (by decide +kernel) rfl
set_option maxRecDepth 100000 in
theorem tw1224 : (.constantLong "FamilyChart$Relations" 57 (2 : Int64) : Cond) ∈ gw := gw_t 1224 (by decide +kernel) rfl
set_option maxRecDepth 100000 in
theorem tw1225 : (.methodLink "FamilyChart$Relations" 59 ⟨"FamilyChart$Relations", "putKinship", "(IIJ)V"⟩ : Cond) ∈ gw := gw_t 1225 (by decide +kernel) rfl
set_option maxRecDepth 100000 in
theorem tw1227 : (.instanceMethod ⟨"FamilyChart$Relations", "putKinship", "(IIJ)V"⟩ : Cond) ∈ gw := gw_t 1227 (by decide +kernel) rfl
set_option maxRecDepth 100000 in
theorem tw1228 : (.code ⟨"FamilyChart$Relations", "putKinship", "(IIJ)V"⟩ prog_8_method_3_code 6 (Option.none : Option ClassFile.FieldType) : Cond) ∈ gw := gw_t 1228 (by decide +kernel) rfl
set_option maxRecDepth 100000 in
theorem tw1229 : (.constantLong "FamilyChart$Relations" 63 (549755813888 : Int64) : Cond) ∈ gw := gw_t 1229 (by decide +kernel) rfl
set_option maxRecDepth 100000 in
theorem tw1230 : (.methodLink "FamilyChart" 210 ⟨"FamilyChart$Relations", "kinshipOf", "(II)J"⟩ : Cond) ∈ gw := gw_t 1230 (by decide +kernel) rfl
set_option maxRecDepth 100000 in
theorem tw1231 : (.methodLink "FamilyChartLaw" 207 ⟨"FamilyChart", "distance", "(II)I"⟩ : Cond) ∈ gw := gw_t 1231 (by decide +kernel) rfl
set_option maxRecDepth 100000 in
theorem tw1232 : (.instanceMethod ⟨"FamilyChart", "distance", "(II)I"⟩ : Cond) ∈ gw := gw_t 1232 (by decide +kernel) rfl
set_option maxRecDepth 100000 in
theorem tw1233 : (.selects "FamilyChart" ⟨"FamilyChart", "distance", "(II)I"⟩ ⟨"FamilyChart", "distance", "(II)I"⟩ : Cond) ∈ gw := gw_t 1233 (by decide +kernel) rfl
set_option maxRecDepth 100000 in
theorem tw1234 : (.code ⟨"FamilyChart", "distance", "(II)I"⟩ prog_1_method_12_code 3 (Option.some ClassFile.FieldType.int) : Cond) ∈ gw := gw_t 1234 (by decide +kernel) rfl
set_option maxRecDepth 100000 in
theorem tw1235 : (.methodLink "FamilyChart" 214 ⟨"FamilyChart$Relations", "stepsBetween", "(II)I"⟩ : Cond) ∈ gw := gw_t 1235 (by decide +kernel) rfl
set_option maxRecDepth 100000 in
theorem tw1236 : (.instanceMethod ⟨"FamilyChart$Relations", "stepsBetween", "(II)I"⟩ : Cond) ∈ gw := gw_t 1236 (by decide +kernel) rfl
set_option maxRecDepth 100000 in
theorem tw1237 : (.selects "FamilyChart$Relations" ⟨"FamilyChart$Relations", "stepsBetween", "(II)I"⟩ ⟨"FamilyChart$Relations", "stepsBetween", "(II)I"⟩ : Cond) ∈ gw := gw_t 1237 (by decide +kernel) rfl
set_option maxRecDepth 100000 in
theorem tw1238 : (.code ⟨"FamilyChart$Relations", "stepsBetween", "(II)I"⟩ prog_8_method_7_code 5 (Option.some ClassFile.FieldType.int) : Cond) ∈ gw := gw_t 1238 (by decide +kernel) rfl
set_option maxRecDepth 100000 in
theorem tw1240 : (.methodLink "FamilyChart$Relations" 77 ⟨"FamilyChart$Relations", "neighbours", "(I)I"⟩ : Cond) ∈ gw := gw_t 1240 (by decide +kernel) rfl
set_option maxRecDepth 100000 in
theorem tw1242 : (.instanceMethod ⟨"FamilyChart$Relations", "neighbours", "(I)I"⟩ : Cond) ∈ gw := gw_t 1242 (by decide +kernel) rfl
set_option maxRecDepth 100000 in
theorem tw1243 : (.code ⟨"FamilyChart$Relations", "neighbours", "(I)I"⟩ prog_8_method_8_code 5 (Option.some ClassFile.FieldType.int) : Cond) ∈ gw := gw_t 1243 (by decide +kernel) rfl
set_option maxRecDepth 100000 in
theorem tw1244 : (.methodLink "FamilyChartLaw" 210 ⟨"FamilyChart", "linesTo", "(II)I"⟩ : Cond) ∈ gw := gw_t 1244 (by decide +kernel) rfl
set_option maxRecDepth 100000 in
theorem tw1245 : (.instanceMethod ⟨"FamilyChart", "linesTo", "(II)I"⟩ : Cond) ∈ gw := gw_t 1245 (by decide +kernel) rfl
set_option maxRecDepth 100000 in
theorem tw1246 : (.selects "FamilyChart" ⟨"FamilyChart", "linesTo", "(II)I"⟩ ⟨"FamilyChart", "linesTo", "(II)I"⟩ : Cond) ∈ gw := gw_t 1246 (by decide +kernel) rfl
set_option maxRecDepth 100000 in
theorem tw1247 : (.code ⟨"FamilyChart", "linesTo", "(II)I"⟩ prog_1_method_13_code 3 (Option.some ClassFile.FieldType.int) : Cond) ∈ gw := gw_t 1247 (by decide +kernel) rfl
set_option maxRecDepth 100000 in
theorem tw1248 : (.methodLink "FamilyChart" 218 ⟨"FamilyChart$Relations", "countLines", "(II)I"⟩ : Cond) ∈ gw := gw_t 1248 (by decide +kernel) rfl
set_option maxRecDepth 100000 in
theorem tw1249 : (.instanceMethod ⟨"FamilyChart$Relations", "countLines", "(II)I"⟩ : Cond) ∈ gw := gw_t 1249 (by decide +kernel) rfl
set_option maxRecDepth 100000 in
theorem tw1250 : (.selects "FamilyChart$Relations" ⟨"FamilyChart$Relations", "countLines", "(II)I"⟩ ⟨"FamilyChart$Relations", "countLines", "(II)I"⟩ : Cond) ∈ gw := gw_t 1250 (by decide +kernel) rfl
set_option maxRecDepth 100000 in
theorem tw1251 : (.code ⟨"FamilyChart$Relations", "countLines", "(II)I"⟩ prog_8_method_9_code 5 (Option.some ClassFile.FieldType.int) : Cond) ∈ gw := gw_t 1251 (by decide +kernel) rfl
set_option maxRecDepth 100000 in
theorem tw1254 : (.methodLink "FamilyChartLaw" 151 ⟨"FamilyChart", "boxes", "(I)I"⟩ : Cond) ∈ gw := gw_t 1254 (by decide +kernel) rfl
set_option maxRecDepth 100000 in
theorem tw1255 : (.instanceMethod ⟨"FamilyChart", "boxes", "(I)I"⟩ : Cond) ∈ gw := gw_t 1255 (by decide +kernel) rfl
set_option maxRecDepth 100000 in
theorem tw1256 : (.selects "FamilyChart" ⟨"FamilyChart", "boxes", "(I)I"⟩ ⟨"FamilyChart", "boxes", "(I)I"⟩ : Cond) ∈ gw := gw_t 1256 (by decide +kernel) rfl
set_option maxRecDepth 100000 in
theorem tw1257 : (.code ⟨"FamilyChart", "boxes", "(I)I"⟩ prog_1_method_16_code 2 (Option.some ClassFile.FieldType.int) : Cond) ∈ gw := gw_t 1257 (by decide +kernel) rfl
set_option maxRecDepth 100000 in
theorem tw1258 : (.methodLink "FamilyChartLaw" 213 ⟨"FamilyChart", "crossingsOf", "(IZ)I"⟩ : Cond) ∈ gw := gw_t 1258 (by decide +kernel) rfl
set_option maxRecDepth 100000 in
theorem tw1259 : (.instanceMethod ⟨"FamilyChart", "crossingsOf", "(IZ)I"⟩ : Cond) ∈ gw := gw_t 1259 (by decide +kernel) rfl
set_option maxRecDepth 100000 in
theorem tw1260 : (.selects "FamilyChart" ⟨"FamilyChart", "crossingsOf", "(IZ)I"⟩ ⟨"FamilyChart", "crossingsOf", "(IZ)I"⟩ : Cond) ∈ gw := gw_t 1260 (by decide +kernel) rfl
set_option maxRecDepth 100000 in
theorem tw1261 : (.code ⟨"FamilyChart", "crossingsOf", "(IZ)I"⟩ prog_1_method_20_code 3 (Option.some ClassFile.FieldType.int) : Cond) ∈ gw := gw_t 1261 (by decide +kernel) rfl
set_option maxRecDepth 100000 in
theorem tw1262 : (.methodLink "FamilyChart" 262 ⟨"FamilyChart$Rows", "countCrossingsBelow", "(I)I"⟩ : Cond) ∈ gw := gw_t 1262 (by decide +kernel) rfl
set_option maxRecDepth 100000 in
theorem tw1263 : (.methodLink "FamilyChart" 265 ⟨"FamilyChart$Rows", "countCrossingsIn", "(I)I"⟩ : Cond) ∈ gw := gw_t 1263 (by decide +kernel) rfl
set_option maxRecDepth 100000 in
theorem tw1264 : (.methodLink "FamilyChartLaw" 259 ⟨"FamilyChartLaw", "isPrinted", "(LFamilyChart;I)Z"⟩ : Cond) ∈ gw := gw_t 1264 (by decide +kernel) rfl
set_option maxRecDepth 100000 in
theorem tw1265 : (.static ⟨"FamilyChartLaw", "isPrinted", "(LFamilyChart;I)Z"⟩ : Cond) ∈ gw := gw_t 1265 (by decide +kernel) rfl
set_option maxRecDepth 100000 in
theorem tw1266 : (.code ⟨"FamilyChartLaw", "isPrinted", "(LFamilyChart;I)Z"⟩ method_20_code 13 (Option.some ClassFile.FieldType.boolean) : Cond) ∈ gw := gw_t 1266 (by decide +kernel) rfl
set_option maxRecDepth 100000 in
theorem tw1267 : (.methodLink "FamilyChartLaw" 217 ⟨"FamilyChart", "strips", "(I)I"⟩ : Cond) ∈ gw := gw_t 1267 (by decide +kernel) rfl
set_option maxRecDepth 100000 in
theorem tw1268 : (.instanceMethod ⟨"FamilyChart", "strips", "(I)I"⟩ : Cond) ∈ gw := gw_t 1268 (by decide +kernel) rfl
set_option maxRecDepth 100000 in
theorem tw1269 : (.selects "FamilyChart" ⟨"FamilyChart", "strips", "(I)I"⟩ ⟨"FamilyChart", "strips", "(I)I"⟩ : Cond) ∈ gw := gw_t 1269 (by decide +kernel) rfl
set_option maxRecDepth 100000 in
theorem tw1270 : (.code ⟨"FamilyChart", "strips", "(I)I"⟩ prog_1_method_25_code 2 (Option.some ClassFile.FieldType.int) : Cond) ∈ gw := gw_t 1270 (by decide +kernel) rfl
set_option maxRecDepth 100000 in
theorem tw1271 : (.methodLink "FamilyChart" 277 ⟨"FamilyChart", "requireStripWidth", "(I)V"⟩ : Cond) ∈ gw := gw_t 1271 (by decide +kernel) rfl
set_option maxRecDepth 100000 in
theorem tw1272 : (.static ⟨"FamilyChart", "requireStripWidth", "(I)V"⟩ : Cond) ∈ gw := gw_t 1272 (by decide +kernel) rfl
set_option maxRecDepth 100000 in
theorem tw1273 : (.code ⟨"FamilyChart", "requireStripWidth", "(I)V"⟩ prog_1_method_46_code 1 (Option.none : Option ClassFile.FieldType) : Cond) ∈ gw := gw_t 1273 (by decide +kernel) rfl
set_option maxRecDepth 100000 in
theorem tw1275 : (.methodLink "FamilyChart" 272 ⟨"FamilyChart$Printer", "widest", "()I"⟩ : Cond) ∈ gw := gw_t 1275 (by decide +kernel) rfl
set_option maxRecDepth 100000 in
theorem tw1276 : (.instanceMethod ⟨"FamilyChart$Printer", "widest", "()I"⟩ : Cond) ∈ gw := gw_t 1276 (by decide +kernel) rfl
set_option maxRecDepth 100000 in
theorem tw1277 : (.selects "FamilyChart$Printer" ⟨"FamilyChart$Printer", "widest", "()I"⟩ ⟨"FamilyChart$Printer", "widest", "()I"⟩ : Cond) ∈ gw := gw_t 1277 (by decide +kernel) rfl
set_option maxRecDepth 100000 in
theorem tw1278 : (.code ⟨"FamilyChart$Printer", "widest", "()I"⟩ prog_6_method_11_code 3 (Option.some ClassFile.FieldType.int) : Cond) ∈ gw := gw_t 1278 (by decide +kernel) rfl
set_option maxRecDepth 100000 in
theorem tw1279 : (.methodLink "FamilyChart$Printer" 130 ⟨"FamilyChart$Printer", "printLine", "(I)V"⟩ : Cond) ∈ gw := gw_t 1279 (by decide +kernel) rfl
set_option maxRecDepth 100000 in
theorem tw1280 : (.instanceMethod ⟨"FamilyChart$Printer", "printLine", "(I)V"⟩ : Cond) ∈ gw := gw_t 1280 (by decide +kernel) rfl
set_option maxRecDepth 100000 in
theorem tw1281 : (.selects "FamilyChart$Printer" ⟨"FamilyChart$Printer", "printLine", "(I)V"⟩ ⟨"FamilyChart$Printer", "printLine", "(I)V"⟩ : Cond) ∈ gw := gw_t 1281 (by decide +kernel) rfl
set_option maxRecDepth 100000 in
theorem tw1282 : (.code ⟨"FamilyChart$Printer", "printLine", "(I)V"⟩ prog_6_method_2_code 3 (Option.none : Option ClassFile.FieldType) : Cond) ∈ gw := gw_t 1282 (by decide +kernel) rfl
set_option maxRecDepth 100000 in
theorem tw1283 : (.methodLink "FamilyChart$Printer" 34 ⟨"FamilyChart$Printer", "clearLine", "()V"⟩ : Cond) ∈ gw := gw_t 1283 (by decide +kernel) rfl
set_option maxRecDepth 100000 in
theorem tw1285 : (.instanceMethod ⟨"FamilyChart$Printer", "clearLine", "()V"⟩ : Cond) ∈ gw := gw_t 1285 (by decide +kernel) rfl
set_option maxRecDepth 100000 in
theorem tw1286 : (.code ⟨"FamilyChart$Printer", "clearLine", "()V"⟩ prog_6_method_3_code 2 (Option.none : Option ClassFile.FieldType) : Cond) ∈ gw := gw_t 1286 (by decide +kernel) rfl
set_option maxRecDepth 100000 in
theorem tw1288 : (.methodLink "FamilyChart$Printer" 37 ⟨"FamilyChart$Printer", "printBoxes", "(I)V"⟩ : Cond) ∈ gw := gw_t 1288 (by decide +kernel) rfl
set_option maxRecDepth 100000 in
theorem tw1290 : (.instanceMethod ⟨"FamilyChart$Printer", "printBoxes", "(I)V"⟩ : Cond) ∈ gw := gw_t 1290 (by decide +kernel) rfl
set_option maxRecDepth 100000 in
theorem tw1291 : (.code ⟨"FamilyChart$Printer", "printBoxes", "(I)V"⟩ prog_6_method_5_code 3 (Option.none : Option ClassFile.FieldType) : Cond) ∈ gw := gw_t 1291 (by decide +kernel) rfl
set_option maxRecDepth 100000 in
theorem tw1292 : (.methodLink "FamilyChart$Printer" 60 ⟨"FamilyChart$Rows", "boxCountOf", "(I)I"⟩ : Cond) ∈ gw := gw_t 1292 (by decide +kernel) rfl
set_option maxRecDepth 100000 in
theorem tw1293 : (.methodLink "FamilyChart$Printer" 66 ⟨"FamilyChart$Rows", "boxAt", "(II)I"⟩ : Cond) ∈ gw := gw_t 1293 (by decide +kernel) rfl
set_option maxRecDepth 100000 in
theorem tw1294 : (.methodLink "FamilyChart$Printer" 69 ⟨"FamilyChart$Printer", "printBox", "(I)V"⟩ : Cond) ∈ gw := gw_t 1294 (by decide +kernel) rfl
set_option maxRecDepth 100000 in
theorem tw1296 : (.instanceMethod ⟨"FamilyChart$Printer", "printBox", "(I)V"⟩ : Cond) ∈ gw := gw_t 1296 (by decide +kernel) rfl
set_option maxRecDepth 100000 in
theorem tw1297 : (.code ⟨"FamilyChart$Printer", "printBox", "(I)V"⟩ prog_6_method_6_code 7 (Option.none : Option ClassFile.FieldType) : Cond) ∈ gw := gw_t 1297 (by decide +kernel) rfl
set_option maxRecDepth 100000 in
theorem tw1298 : (.methodLink "FamilyChart$Printer" 72 ⟨"FamilyChart$Rows", "personOf", "(I)I"⟩ : Cond) ∈ gw := gw_t 1298 (by decide +kernel) rfl
set_option maxRecDepth 100000 in
theorem tw1300 : (.methodLink "FamilyChart$Printer" 89 ⟨"FamilyChart$Printer", "printByte", "(II)V"⟩ : Cond) ∈ gw := gw_t 1300 (by decide +kernel) rfl
set_option maxRecDepth 100000 in
theorem tw1302 : (.instanceMethod ⟨"FamilyChart$Printer", "printByte", "(II)V"⟩ : Cond) ∈ gw := gw_t 1302 (by decide +kernel) rfl
set_option maxRecDepth 100000 in
theorem tw1303 : (.code ⟨"FamilyChart$Printer", "printByte", "(II)V"⟩ prog_6_method_4_code 3 (Option.none : Option ClassFile.FieldType) : Cond) ∈ gw := gw_t 1303 (by decide +kernel) rfl
set_option maxRecDepth 100000 in
theorem tw1304 : (.methodLink "FamilyChart$Printer" 51 ⟨"java/lang/Math", "min", "(II)I"⟩ : Cond) ∈ gw := gw_t 1304 (by decide +kernel) rfl
set_option maxRecDepth 100000 in
theorem tw1305 : (.methodLink "FamilyChart$Printer" 57 ⟨"java/lang/Math", "max", "(II)I"⟩ : Cond) ∈ gw := gw_t 1305 (by decide +kernel) rfl
set_option maxRecDepth 100000 in
theorem tw1306 : (.methodLink "FamilyChart$Printer" 41 ⟨"FamilyChart$Printer", "printUnionMarks", "(I)V"⟩ : Cond) ∈ gw := gw_t 1306 (by decide +kernel) rfl
set_option maxRecDepth 100000 in
theorem tw1308 : (.instanceMethod ⟨"FamilyChart$Printer", "printUnionMarks", "(I)V"⟩ : Cond) ∈ gw := gw_t 1308 (by decide +kernel) rfl
set_option maxRecDepth 100000 in
theorem tw1309 : (.code ⟨"FamilyChart$Printer", "printUnionMarks", "(I)V"⟩ prog_6_method_7_code 3 (Option.none : Option ClassFile.FieldType) : Cond) ∈ gw := gw_t 1309 (by decide +kernel) rfl
set_option maxRecDepth 100000 in
theorem tw1310 : (.methodLink "FamilyChart$Printer" 102 ⟨"FamilyChart$Columns", "middleOfUnion", "(I)I"⟩ : Cond) ∈ gw := gw_t 1310 (by decide +kernel) rfl
set_option maxRecDepth 100000 in
theorem tw1311 : (.methodLink "FamilyChart$Printer" 105 ⟨"FamilyChart$Printer", "freeColumn", "(I)I"⟩ : Cond) ∈ gw := gw_t 1311 (by decide +kernel) rfl
set_option maxRecDepth 100000 in
theorem tw1313 : (.instanceMethod ⟨"FamilyChart$Printer", "freeColumn", "(I)I"⟩ : Cond) ∈ gw := gw_t 1313 (by decide +kernel) rfl
set_option maxRecDepth 100000 in
theorem tw1314 : (.code ⟨"FamilyChart$Printer", "freeColumn", "(I)I"⟩ prog_6_method_8_code 3 (Option.some ClassFile.FieldType.int) : Cond) ∈ gw := gw_t 1314 (by decide +kernel) rfl
set_option maxRecDepth 100000 in
theorem tw1315 : (.methodLink "FamilyChart$Printer" 108 ⟨"FamilyChart$Printer", "markOf", "(I)I"⟩ : Cond) ∈ gw := gw_t 1315 (by decide +kernel) rfl
set_option maxRecDepth 100000 in
theorem tw1316 : (.static ⟨"FamilyChart$Printer", "markOf", "(I)I"⟩ : Cond) ∈ gw := gw_t 1316 (by decide +kernel) rfl
set_option maxRecDepth 100000 in
theorem tw1317 : (.code ⟨"FamilyChart$Printer", "markOf", "(I)I"⟩ prog_6_method_10_code 1 (Option.some ClassFile.FieldType.int) : Cond) ∈ gw := gw_t 1317 (by decide +kernel) rfl
set_option maxRecDepth 100000 in
theorem tw1318 : (.methodLink "FamilyChart$Printer" 44 ⟨"FamilyChart$Printer", "printPersonMarks", "(I)V"⟩ : Cond) ∈ gw := gw_t 1318 (by decide +kernel) rfl
set_option maxRecDepth 100000 in
theorem tw1320 : (.instanceMethod ⟨"FamilyChart$Printer", "printPersonMarks", "(I)V"⟩ : Cond) ∈ gw := gw_t 1320 (by decide +kernel) rfl
set_option maxRecDepth 100000 in
theorem tw1321 : (.code ⟨"FamilyChart$Printer", "printPersonMarks", "(I)V"⟩ prog_6_method_9_code 4 (Option.none : Option ClassFile.FieldType) : Cond) ∈ gw := gw_t 1321 (by decide +kernel) rfl
set_option maxRecDepth 100000 in
theorem tw1322 : (.methodLink "FamilyChart$Printer" 120 ⟨"FamilyChart$Family", "hasParents", "(I)Z"⟩ : Cond) ∈ gw := gw_t 1322 (by decide +kernel) rfl
set_option maxRecDepth 100000 in
theorem tw1323 : (.methodLink "FamilyChartLaw" 220 ⟨"FamilyChart", "format", "(III)I"⟩ : Cond) ∈ gw := gw_t 1323 (by decide +kernel) rfl
set_option maxRecDepth 100000 in
theorem tw1324 : (.instanceMethod ⟨"FamilyChart", "format", "(III)I"⟩ : Cond) ∈ gw := gw_t 1324 (by decide +kernel) rfl
set_option maxRecDepth 100000 in
theorem tw1325 : (.selects "FamilyChart" ⟨"FamilyChart", "format", "(III)I"⟩ ⟨"FamilyChart", "format", "(III)I"⟩ : Cond) ∈ gw := gw_t 1325 (by decide +kernel) rfl
set_option maxRecDepth 100000 in
theorem tw1326 : (.code ⟨"FamilyChart", "format", "(III)I"⟩ prog_1_method_23_code 4 (Option.some ClassFile.FieldType.int) : Cond) ∈ gw := gw_t 1326 (by decide +kernel) rfl
set_option maxRecDepth 100000 in
theorem tw1328 : (.methodLink "FamilyChart" 280 ⟨"FamilyChart$Printer", "printLine", "(I)V"⟩ : Cond) ∈ gw := gw_t 1328 (by decide +kernel) rfl
set_option maxRecDepth 100000 in
theorem tw1329 : (.methodLink "FamilyChart" 283 ⟨"FamilyChart$Printer", "cutText", "(JI)V"⟩ : Cond) ∈ gw := gw_t 1329 (by decide +kernel) rfl
set_option maxRecDepth 100000 in
theorem tw1330 : (.instanceMethod ⟨"FamilyChart$Printer", "cutText", "(JI)V"⟩ : Cond) ∈ gw := gw_t 1330 (by decide +kernel) rfl
set_option maxRecDepth 100000 in
theorem tw1331 : (.selects "FamilyChart$Printer" ⟨"FamilyChart$Printer", "cutText", "(JI)V"⟩ ⟨"FamilyChart$Printer", "cutText", "(JI)V"⟩ : Cond) ∈ gw := gw_t 1331 (by decide +kernel) rfl
set_option maxRecDepth 100000 in
theorem tw1332 : (.code ⟨"FamilyChart$Printer", "cutText", "(JI)V"⟩ prog_6_method_12_code 7 (Option.none : Option ClassFile.FieldType) : Cond) ∈ gw := gw_t 1332 (by decide +kernel) rfl
set_option maxRecDepth 100000 in
theorem tw1333 : (.methodLink "FamilyChartLaw" 223 ⟨"FamilyChart", "formattedByte", "(I)I"⟩ : Cond) ∈ gw := gw_t 1333 (by decide +kernel) rfl
set_option maxRecDepth 100000 in
theorem tw1334 : (.instanceMethod ⟨"FamilyChart", "formattedByte", "(I)I"⟩ : Cond) ∈ gw := gw_t 1334 (by decide +kernel) rfl
set_option maxRecDepth 100000 in
theorem tw1335 : (.selects "FamilyChart" ⟨"FamilyChart", "formattedByte", "(I)I"⟩ ⟨"FamilyChart", "formattedByte", "(I)I"⟩ : Cond) ∈ gw := gw_t 1335 (by decide +kernel) rfl
set_option maxRecDepth 100000 in
theorem tw1336 : (.code ⟨"FamilyChart", "formattedByte", "(I)I"⟩ prog_1_method_24_code 2 (Option.some ClassFile.FieldType.int) : Cond) ∈ gw := gw_t 1336 (by decide +kernel) rfl
set_option maxRecDepth 100000 in
theorem tw1337 : (.methodLink "FamilyChartLaw" 226 ⟨"java/lang/Math", "max", "(II)I"⟩ : Cond) ∈ gw := gw_t 1337 (by decide +kernel) rfl
set_option maxRecDepth 100000 in
theorem tw1338 : (.methodLink "FamilyChartLaw" 231 ⟨"FamilyChart", "width", "()I"⟩ : Cond) ∈ gw := gw_t 1338 (by decide +kernel) rfl
set_option maxRecDepth 100000 in
theorem tw1339 : (.instanceMethod ⟨"FamilyChart", "width", "()I"⟩ : Cond) ∈ gw := gw_t 1339 (by decide +kernel) rfl
set_option maxRecDepth 100000 in
theorem tw1340 : (.selects "FamilyChart" ⟨"FamilyChart", "width", "()I"⟩ ⟨"FamilyChart", "width", "()I"⟩ : Cond) ∈ gw := gw_t 1340 (by decide +kernel) rfl
set_option maxRecDepth 100000 in
theorem tw1341 : (.code ⟨"FamilyChart", "width", "()I"⟩ prog_1_method_22_code 1 (Option.some ClassFile.FieldType.int) : Cond) ∈ gw := gw_t 1341 (by decide +kernel) rfl
set_option maxRecDepth 100000 in
theorem tw1342 : (.methodLink "FamilyChartLaw" 234 ⟨"FamilyChart", "cutBoxes", "(I)I"⟩ : Cond) ∈ gw := gw_t 1342 (by decide +kernel) rfl
set_option maxRecDepth 100000 in
theorem tw1343 : (.instanceMethod ⟨"FamilyChart", "cutBoxes", "(I)I"⟩ : Cond) ∈ gw := gw_t 1343 (by decide +kernel) rfl
set_option maxRecDepth 100000 in
theorem tw1344 : (.selects "FamilyChart" ⟨"FamilyChart", "cutBoxes", "(I)I"⟩ ⟨"FamilyChart", "cutBoxes", "(I)I"⟩ : Cond) ∈ gw := gw_t 1344 (by decide +kernel) rfl
set_option maxRecDepth 100000 in
theorem tw1345 : (.code ⟨"FamilyChart", "cutBoxes", "(I)I"⟩ prog_1_method_26_code 2 (Option.some ClassFile.FieldType.int) : Cond) ∈ gw := gw_t 1345 (by decide +kernel) rfl
set_option maxRecDepth 100000 in
theorem tw1346 : (.methodLink "FamilyChart" 293 ⟨"FamilyChart$Columns", "countCut", "(I)I"⟩ : Cond) ∈ gw := gw_t 1346 (by decide +kernel) rfl
set_option maxRecDepth 100000 in
theorem tw1347 : (.instanceMethod ⟨"FamilyChart$Columns", "countCut", "(I)I"⟩ : Cond) ∈ gw := gw_t 1347 (by decide +kernel) rfl
set_option maxRecDepth 100000 in
theorem tw1348 : (.selects "FamilyChart$Columns" ⟨"FamilyChart$Columns", "countCut", "(I)I"⟩ ⟨"FamilyChart$Columns", "countCut", "(I)I"⟩ : Cond) ∈ gw := gw_t 1348 (by decide +kernel) rfl
set_option maxRecDepth 100000 in
theorem tw1349 : (.code ⟨"FamilyChart$Columns", "countCut", "(I)I"⟩ prog_2_method_6_code 5 (Option.some ClassFile.FieldType.int) : Cond) ∈ gw := gw_t 1349 (by decide +kernel) rfl
set_option maxRecDepth 100000 in
theorem tw1350 : (.methodLink "FamilyChart$Columns" 83 ⟨"FamilyChart$Columns", "isCut", "(II)Z"⟩ : Cond) ∈ gw := gw_t 1350 (by decide +kernel) rfl
set_option maxRecDepth 100000 in
theorem tw1352 : (.instanceMethod ⟨"FamilyChart$Columns", "isCut", "(II)Z"⟩ : Cond) ∈ gw := gw_t 1352 (by decide +kernel) rfl
set_option maxRecDepth 100000 in
theorem tw1353 : (.code ⟨"FamilyChart$Columns", "isCut", "(II)Z"⟩ prog_2_method_7_code 5 (Option.some ClassFile.FieldType.boolean) : Cond) ∈ gw := gw_t 1353 (by decide +kernel) rfl
set_option maxRecDepth 100000 in
theorem tw1354 : (.methodLink "FamilyChartLaw" 270 ⟨"FamilyChartLaw", "isBetter", "(LFamilyChart;I)Z"⟩ : Cond) ∈ gw := gw_t 1354 (by decide +kernel) rfl
set_option maxRecDepth 100000 in
theorem tw1355 : (.static ⟨"FamilyChartLaw", "isBetter", "(LFamilyChart;I)Z"⟩ : Cond) ∈ gw := gw_t 1355 (by decide +kernel) rfl
set_option maxRecDepth 100000 in
theorem tw1356 : (.code ⟨"FamilyChartLaw", "isBetter", "(LFamilyChart;I)Z"⟩ method_21_code 11 (Option.some ClassFile.FieldType.boolean) : Cond) ∈ gw := gw_t 1356 (by decide +kernel) rfl
set_option maxRecDepth 100000 in
theorem tw1373 : (.fieldLink "java/lang/String" 9 "java/lang/String" "value" "[B" : Cond) ∈ gw := gw_t 1373 (by decide +kernel) rfl
set_option maxRecDepth 100000 in
theorem tw1374 : (.fieldLink "java/lang/String" 15 "java/lang/String" "coder" "B" : Cond) ∈ gw := gw_t 1374 (by decide +kernel) rfl
set_option maxRecDepth 100000 in
theorem inX0 : ∀ w ∈ u_ws RX0 TX0 4, w ∈ gw := by decide +kernel
set_option maxRecDepth 100000 in
theorem inX1 : ∀ w ∈ u_ws RX1 TX1 14, w ∈ gw := by decide +kernel
set_option maxRecDepth 100000 in
theorem inX2 : ∀ w ∈ u_ws RX2 TX2 6, w ∈ gw := by decide +kernel
set_option maxRecDepth 100000 in
theorem inX3 : ∀ w ∈ u_ws RX3 TX3 9, w ∈ gw := by decide +kernel
set_option maxRecDepth 100000 in
theorem inX4 : ∀ w ∈ u_ws RX4 TX4 7, w ∈ gw := by decide +kernel
set_option maxRecDepth 100000 in
theorem inX5 : ∀ w ∈ u_ws RX5 TX5 5, w ∈ gw := by decide +kernel
set_option maxRecDepth 100000 in
theorem inX6 : ∀ w ∈ u_ws RX6 TX6 4, w ∈ gw := by decide +kernel
set_option maxRecDepth 100000 in
theorem inX7 : ∀ w ∈ u_ws RX7 TX7 7, w ∈ gw := by decide +kernel
set_option maxRecDepth 100000 in
theorem inX8 : ∀ w ∈ u_ws RX8 TX8 2, w ∈ gw := by decide +kernel
set_option maxRecDepth 100000 in
theorem inX9 : ∀ w ∈ u_ws RX9 TX9 9, w ∈ gw := by decide +kernel
set_option maxRecDepth 100000 in
theorem inX10 : ∀ w ∈ u_ws RX10 TX10 12, w ∈ gw := by decide +kernel
theorem nw0 : (.methodLinkNest "FamilyChart" 11 ⟨"FamilyChart$Input", "<init>", "()V"⟩ "FamilyChart" : Cond) ∈ nw_all := by decide +kernel
theorem nw1 : (.methodLinkNest "FamilyChart" 18 ⟨"FamilyChart$Family", "<init>", "()V"⟩ "FamilyChart" : Cond) ∈ nw_all := by decide +kernel
theorem nw2 : (.methodLinkNest "FamilyChart$TextReader" 11 ⟨"FamilyChart$Family", "<init>", "()V"⟩ "FamilyChart" : Cond) ∈ nw_all := by decide +kernel
theorem nw3 : (.methodLinkNest "FamilyChart$Rows" 60 ⟨"FamilyChart", "at", "([II)I"⟩ "FamilyChart" : Cond) ∈ nw_all := by decide +kernel
theorem nw4 : (.methodLinkNest "FamilyChart$Family" 59 ⟨"FamilyChart", "at", "([II)I"⟩ "FamilyChart" : Cond) ∈ nw_all := by decide +kernel
theorem nw5 : (.methodLinkNest "FamilyChart$Family" 101 ⟨"FamilyChart", "bit", "(I)I"⟩ "FamilyChart" : Cond) ∈ nw_all := by decide +kernel
theorem nw6 : (.methodLinkNest "FamilyChart$History" 52 ⟨"FamilyChart", "put", "([III)V"⟩ "FamilyChart" : Cond) ∈ nw_all := by decide +kernel
theorem nw7 : (.methodLinkNest "FamilyChart$History" 59 ⟨"FamilyChart", "copyCells", "([II[III)V"⟩ "FamilyChart" : Cond) ∈ nw_all := by decide +kernel
theorem nw8 : (.methodLinkNest "FamilyChart$Rows" 86 ⟨"FamilyChart", "copyCells", "([II[III)V"⟩ "FamilyChart" : Cond) ∈ nw_all := by decide +kernel
theorem nw9 : (.methodLinkNest "FamilyChart$Rows" 43 ⟨"FamilyChart", "put", "([III)V"⟩ "FamilyChart" : Cond) ∈ nw_all := by decide +kernel
theorem nw10 : (.methodLinkNest "FamilyChart$History" 78 ⟨"FamilyChart", "at", "([II)I"⟩ "FamilyChart" : Cond) ∈ nw_all := by decide +kernel
theorem nw11 : (.methodLinkNest "FamilyChart$Family" 67 ⟨"FamilyChart", "fill", "([II)V"⟩ "FamilyChart" : Cond) ∈ nw_all := by decide +kernel
theorem nw12 : (.methodLinkNest "FamilyChart$Family" 55 ⟨"FamilyChart", "put", "([III)V"⟩ "FamilyChart" : Cond) ∈ nw_all := by decide +kernel
theorem nw13 : (.methodLinkNest "FamilyChartLaw" 22 ⟨"FamilyChartLaw$Own", "<init>", "()V"⟩ "FamilyChartLaw" : Cond) ∈ nw_all := by decide +kernel
theorem nw14 : (.methodLinkNest "FamilyChartLaw" 62 ⟨"FamilyChartLaw$Own", "in", "(II)Z"⟩ "FamilyChartLaw" : Cond) ∈ nw_all := by decide +kernel
theorem nw15 : (.methodLinkNest "FamilyChartLaw" 66 ⟨"FamilyChartLaw$Own", "up", "(I)I"⟩ "FamilyChartLaw" : Cond) ∈ nw_all := by decide +kernel
theorem nw16 : (.methodLinkNest "FamilyChartLaw" 59 ⟨"FamilyChartLaw$Own", "plain", "()V"⟩ "FamilyChartLaw" : Cond) ∈ nw_all := by decide +kernel
theorem nw17 : (.methodLinkNest "FamilyChart$Input" 22 ⟨"FamilyChart", "put", "([III)V"⟩ "FamilyChart" : Cond) ∈ nw_all := by decide +kernel
theorem nw18 : (.methodLinkNest "FamilyChartLaw" 87 ⟨"FamilyChartLaw$Own", "name", "(II)C"⟩ "FamilyChartLaw" : Cond) ∈ nw_all := by decide +kernel
theorem nw19 : (.methodLinkNest "FamilyChart$Input" 45 ⟨"FamilyChart", "at", "([II)I"⟩ "FamilyChart" : Cond) ∈ nw_all := by decide +kernel
theorem nw20 : (.methodLinkNest "FamilyChart$TextReader" 140 ⟨"FamilyChart", "at", "([II)I"⟩ "FamilyChart" : Cond) ∈ nw_all := by decide +kernel
theorem nw21 : (.methodLinkNest "FamilyChart$TextReader" 93 ⟨"FamilyChart", "put", "([III)V"⟩ "FamilyChart" : Cond) ∈ nw_all := by decide +kernel
theorem nw22 : (.methodLinkNest "FamilyChart$Family" 63 ⟨"FamilyChart", "copyCells", "([II[III)V"⟩ "FamilyChart" : Cond) ∈ nw_all := by decide +kernel
theorem nw23 : (.methodLinkNest "FamilyChartLaw" 126 ⟨"FamilyChartLaw$Own", "gen", "(I)I"⟩ "FamilyChartLaw" : Cond) ∈ nw_all := by decide +kernel
theorem nw24 : (.methodLinkNest "FamilyChartLaw" 176 ⟨"FamilyChartLaw$Own", "turn", "(III)V"⟩ "FamilyChartLaw" : Cond) ∈ nw_all := by decide +kernel
theorem nw25 : (.methodLinkNest "FamilyChartLaw" 120 ⟨"FamilyChartLaw$Own", "all", "()I"⟩ "FamilyChartLaw" : Cond) ∈ nw_all := by decide +kernel
theorem nw26 : (.methodLinkNest "FamilyChartLaw" 186 ⟨"FamilyChartLaw$Own", "improve", "(I)I"⟩ "FamilyChartLaw" : Cond) ∈ nw_all := by decide +kernel
theorem nw27 : (.methodLinkNest "FamilyChartLaw" 187 ⟨"FamilyChartLaw$Own", "arrange", "()V"⟩ "FamilyChartLaw" : Cond) ∈ nw_all := by decide +kernel
theorem nw28 : (.methodLinkNest "FamilyChart$Rows" 93 ⟨"FamilyChart", "unionOfReference", "(I)I"⟩ "FamilyChart" : Cond) ∈ nw_all := by decide +kernel
theorem nw29 : (.methodLinkNest "FamilyChart$Columns" 64 ⟨"FamilyChart", "at", "([II)I"⟩ "FamilyChart" : Cond) ∈ nw_all := by decide +kernel
theorem nw30 : (.methodLinkNest "FamilyChart$Columns" 50 ⟨"FamilyChart", "put", "([III)V"⟩ "FamilyChart" : Cond) ∈ nw_all := by decide +kernel
theorem nw31 : (.methodLinkNest "FamilyChart$Relations" 38 ⟨"FamilyChart", "at", "([II)I"⟩ "FamilyChart" : Cond) ∈ nw_all := by decide +kernel
theorem nw32 : (.methodLinkNest "FamilyChart$Relations" 74 ⟨"FamilyChart", "bit", "(I)I"⟩ "FamilyChart" : Cond) ∈ nw_all := by decide +kernel
theorem nw33 : (.methodLinkNest "FamilyChart$Relations" 80 ⟨"FamilyChart", "fill", "([II)V"⟩ "FamilyChart" : Cond) ∈ nw_all := by decide +kernel
theorem nw34 : (.methodLinkNest "FamilyChart$Relations" 84 ⟨"FamilyChart", "put", "([III)V"⟩ "FamilyChart" : Cond) ∈ nw_all := by decide +kernel
theorem nw35 : (.methodLinkNest "FamilyChart$Printer" 47 ⟨"FamilyChart", "put", "([III)V"⟩ "FamilyChart" : Cond) ∈ nw_all := by decide +kernel
theorem nw36 : (.methodLinkNest "FamilyChart$Printer" 80 ⟨"FamilyChart", "at", "([II)I"⟩ "FamilyChart" : Cond) ∈ nw_all := by decide +kernel
set_option maxRecDepth 100000 in
theorem mJ6_bitCount_0f7a4 : mS yJ6_bitCount_0f7a4 cJ6_bitCount_0f7a4 1 (some .int) 1 := ⟨tw1147, tw1146, tw22, by decide +kernel, by decide +kernel, by decide +kernel⟩
set_option maxRecDepth 100000 in
theorem mX9_feed : mV yX9_feed cX9_feed 6 (some .int) 5 := ⟨tw685, tw683, tw684, tw1, by decide +kernel, by decide +kernel, by decide +kernel⟩
set_option maxRecDepth 100000 in
theorem mX9_load : mV yX9_load cX9_load 3 (some .int) 1 := ⟨tw716, tw714, tw715, tw1, by decide +kernel, by decide +kernel, by decide +kernel⟩
set_option maxRecDepth 100000 in
theorem mX9_count : mV yX9_count cX9_count 2 (some .int) 1 := ⟨tw364, tw362, tw363, tw1, by decide +kernel, by decide +kernel, by decide +kernel⟩
set_option maxRecDepth 100000 in
theorem mX9_person : mV yX9_person cX9_person 3 (some .int) 2 := ⟨tw1134, tw1132, tw1133, tw1, by decide +kernel, by decide +kernel, by decide +kernel⟩
set_option maxRecDepth 100000 in
theorem mX9_union : mV yX9_union cX9_union 3 (some .int) 2 := ⟨tw1143, tw1141, tw1142, tw1, by decide +kernel, by decide +kernel, by decide +kernel⟩
set_option maxRecDepth 100000 in
theorem mX9_children : mV yX9_children cX9_children 2 (some .int) 1 := ⟨tw1180, tw1178, tw1179, tw1, by decide +kernel, by decide +kernel, by decide +kernel⟩
set_option maxRecDepth 100000 in
theorem mX9_ancestors : mV yX9_ancestors cX9_ancestors 2 (some .int) 1 := ⟨tw1187, tw1185, tw1186, tw1, by decide +kernel, by decide +kernel, by decide +kernel⟩
set_option maxRecDepth 100000 in
theorem mX9_descendants : mV yX9_descendants cX9_descendants 2 (some .int) 1 := ⟨tw1191, tw1189, tw1190, tw1, by decide +kernel, by decide +kernel, by decide +kernel⟩
set_option maxRecDepth 100000 in
theorem mX9_kinship : mV yX9_kinship cX9_kinship 3 (some .long) 2 := ⟨tw1208, tw1206, tw1207, tw1, by decide +kernel, by decide +kernel, by decide +kernel⟩
set_option maxRecDepth 100000 in
theorem mX9_distance : mV yX9_distance cX9_distance 3 (some .int) 2 := ⟨tw1234, tw1232, tw1233, tw1, by decide +kernel, by decide +kernel, by decide +kernel⟩
set_option maxRecDepth 100000 in
theorem mX9_linesTo : mV yX9_linesTo cX9_linesTo 3 (some .int) 2 := ⟨tw1247, tw1245, tw1246, tw1, by decide +kernel, by decide +kernel, by decide +kernel⟩
set_option maxRecDepth 100000 in
theorem mX9_boxes : mV yX9_boxes cX9_boxes 2 (some .int) 1 := ⟨tw1257, tw1255, tw1256, tw1, by decide +kernel, by decide +kernel, by decide +kernel⟩
set_option maxRecDepth 100000 in
theorem mX9_box : mV yX9_box cX9_box 5 (some .int) 3 := ⟨tw1199, tw1197, tw1198, tw1, by decide +kernel, by decide +kernel, by decide +kernel⟩
set_option maxRecDepth 100000 in
theorem mX9_place : mV yX9_place cX9_place 2 (some .int) 1 := ⟨tw1130, tw1128, tw1129, tw1, by decide +kernel, by decide +kernel, by decide +kernel⟩
set_option maxRecDepth 100000 in
theorem mX9_crossings : mV yX9_crossings cX9_crossings 1 (some .int) 0 := ⟨tw1125, tw1123, tw1124, tw1, by decide +kernel, by decide +kernel, by decide +kernel⟩
set_option maxRecDepth 100000 in
theorem mX9_crossingsOf : mV yX9_crossingsOf cX9_crossingsOf 3 (some .int) 2 := ⟨tw1261, tw1259, tw1260, tw1, by decide +kernel, by decide +kernel, by decide +kernel⟩
set_option maxRecDepth 100000 in
theorem mX9_crossingsIf : mV yX9_crossingsIf cX9_crossingsIf 5 (some .int) 3 := ⟨tw972, tw970, tw971, tw1, by decide +kernel, by decide +kernel, by decide +kernel⟩
set_option maxRecDepth 100000 in
theorem mX9_width : mV yX9_width cX9_width 1 (some .int) 0 := ⟨tw1341, tw1339, tw1340, tw1, by decide +kernel, by decide +kernel, by decide +kernel⟩
set_option maxRecDepth 100000 in
theorem mX9_format : mV yX9_format cX9_format 4 (some .int) 3 := ⟨tw1326, tw1324, tw1325, tw1, by decide +kernel, by decide +kernel, by decide +kernel⟩
set_option maxRecDepth 100000 in
theorem mX9_formattedByte : mV yX9_formattedByte cX9_formattedByte 2 (some .int) 1 := ⟨tw1336, tw1334, tw1335, tw1, by decide +kernel, by decide +kernel, by decide +kernel⟩
set_option maxRecDepth 100000 in
theorem mX9_strips : mV yX9_strips cX9_strips 2 (some .int) 1 := ⟨tw1270, tw1268, tw1269, tw1, by decide +kernel, by decide +kernel, by decide +kernel⟩
set_option maxRecDepth 100000 in
theorem mX9_cutBoxes : mV yX9_cutBoxes cX9_cutBoxes 2 (some .int) 1 := ⟨tw1345, tw1343, tw1344, tw1, by decide +kernel, by decide +kernel, by decide +kernel⟩
set_option maxRecDepth 100000 in
theorem mX9_marry : mV yX9_marry cX9_marry 5 (some .int) 3 := ⟨tw916, tw914, tw915, tw1, by decide +kernel, by decide +kernel, by decide +kernel⟩
set_option maxRecDepth 100000 in
theorem mX9_adopt : mV yX9_adopt cX9_adopt 3 (some .int) 2 := ⟨tw953, tw951, tw952, tw1, by decide +kernel, by decide +kernel, by decide +kernel⟩
set_option maxRecDepth 100000 in
theorem mX9_release : mV yX9_release cX9_release 3 (some .int) 1 := ⟨tw968, tw966, tw967, tw1, by decide +kernel, by decide +kernel, by decide +kernel⟩
set_option maxRecDepth 100000 in
theorem mX9_swap : mV yX9_swap cX9_swap 4 (some .int) 3 := ⟨tw1028, tw1026, tw1027, tw1, by decide +kernel, by decide +kernel, by decide +kernel⟩
set_option maxRecDepth 100000 in
theorem mX9_improve : mV yX9_improve cX9_improve 5 (some .int) 1 := ⟨tw1061, tw1059, tw1060, tw1, by decide +kernel, by decide +kernel, by decide +kernel⟩
set_option maxRecDepth 100000 in
theorem mX9_arrange : mV yX9_arrange cX9_arrange 1 (some .int) 0 := ⟨tw1089, tw1087, tw1088, tw1, by decide +kernel, by decide +kernel, by decide +kernel⟩
set_option maxRecDepth 100000 in
theorem mX9_plain : mV yX9_plain cX9_plain 1 none 0 := ⟨tw403, tw401, tw402, tw1, by decide +kernel, by decide +kernel, by decide +kernel⟩
set_option maxRecDepth 100000 in
theorem mX9_undoCount : mV yX9_undoCount cX9_undoCount 1 (some .int) 0 := ⟨tw456, tw454, tw455, tw1, by decide +kernel, by decide +kernel, by decide +kernel⟩
set_option maxRecDepth 100000 in
theorem mX9_undo : mV yX9_undo cX9_undo 1 (some .int) 0 := ⟨tw460, tw458, tw459, tw1, by decide +kernel, by decide +kernel, by decide +kernel⟩
set_option maxRecDepth 100000 in
theorem mX9_saveSnapshot : mV yX9_saveSnapshot cX9_saveSnapshot 1 none 0 := ⟨tw509, tw507, tw508, tw1, by decide +kernel, by decide +kernel, by decide +kernel⟩
set_option maxRecDepth 100000 in
theorem mX9_restoreSnapshot : mV yX9_restoreSnapshot cX9_restoreSnapshot 1 (some .boolean) 0 := ⟨tw517, tw515, tw516, tw1, by decide +kernel, by decide +kernel, by decide +kernel⟩
set_option maxRecDepth 100000 in
theorem mX9_renewRows : mV yX9_renewRows cX9_renewRows 1 none 0 := ⟨tw947, tw946, (gw_s 26 rfl), tw1, by decide +kernel, by decide +kernel, by decide +kernel⟩
set_option maxRecDepth 100000 in
theorem mX9_requirePerson : mV yX9_requirePerson cX9_requirePerson 2 none 1 := ⟨tw920, tw919, (gw_s 25 rfl), tw1, by decide +kernel, by decide +kernel, by decide +kernel⟩
set_option maxRecDepth 100000 in
theorem mX9_requireUnion : mV yX9_requireUnion cX9_requireUnion 2 none 1 := ⟨tw957, tw956, (gw_s 27 rfl), tw1, by decide +kernel, by decide +kernel, by decide +kernel⟩
set_option maxRecDepth 100000 in
theorem mX9_requireRow : mV yX9_requireRow cX9_requireRow 2 none 1 := ⟨tw980, tw979, (gw_s 29 rfl), tw1, by decide +kernel, by decide +kernel, by decide +kernel⟩
set_option maxRecDepth 100000 in
theorem mX9_requirePlace : mV yX9_requirePlace cX9_requirePlace 3 none 2 := ⟨tw976, tw975, (gw_s 28 rfl), tw1, by decide +kernel, by decide +kernel, by decide +kernel⟩
set_option maxRecDepth 100000 in
theorem mX9_requireStripWidth : mS yX9_requireStripWidth cX9_requireStripWidth 1 none 1 := ⟨tw1273, tw1272, tw1, by decide +kernel, by decide +kernel, by decide +kernel⟩
set_option maxRecDepth 100000 in
theorem mX9_at : mS yX9_at cX9_at 2 (some .int) 2 := ⟨tw371, tw370, tw1, by decide +kernel, by decide +kernel, by decide +kernel⟩
set_option maxRecDepth 100000 in
theorem mX9_put : mS yX9_put cX9_put 3 none 3 := ⟨tw414, tw413, tw1, by decide +kernel, by decide +kernel, by decide +kernel⟩
set_option maxRecDepth 100000 in
theorem mX9_fill : mS yX9_fill cX9_fill 3 none 2 := ⟨tw476, tw475, tw1, by decide +kernel, by decide +kernel, by decide +kernel⟩
set_option maxRecDepth 100000 in
theorem mX9_copyCells : mS yX9_copyCells cX9_copyCells 6 none 5 := ⟨tw417, tw416, tw1, by decide +kernel, by decide +kernel, by decide +kernel⟩
set_option maxRecDepth 100000 in
theorem mX9_bit : mS yX9_bit cX9_bit 1 (some .int) 1 := ⟨tw399, tw398, tw1, by decide +kernel, by decide +kernel, by decide +kernel⟩
set_option maxRecDepth 100000 in
theorem mX9_unionOfReference : mS yX9_unionOfReference cX9_unionOfReference 1 (some .int) 1 := ⟨tw1100, tw1099, tw1, by decide +kernel, by decide +kernel, by decide +kernel⟩
set_option maxRecDepth 100000 in
theorem mX0_layOut : mV yX0_layOut cX0_layOut 6 none 0 := ⟨tw1155, tw1153, tw1154, tw6, by decide +kernel, by decide +kernel, by decide +kernel⟩
set_option maxRecDepth 100000 in
theorem mX0_wantedColumn : mV yX0_wantedColumn cX0_wantedColumn 2 (some .int) 1 := ⟨tw1161, tw1160, (gw_s 48 rfl), tw6, by decide +kernel, by decide +kernel, by decide +kernel⟩
set_option maxRecDepth 100000 in
theorem mX0_widthOf : mV yX0_widthOf cX0_widthOf 2 (some .int) 1 := ⟨tw1171, tw1169, tw1170, tw6, by decide +kernel, by decide +kernel, by decide +kernel⟩
set_option maxRecDepth 100000 in
theorem mX0_middleOfUnion : mV yX0_middleOfUnion cX0_middleOfUnion 4 (some .int) 1 := ⟨tw1167, tw1165, tw1166, tw6, by decide +kernel, by decide +kernel, by decide +kernel⟩
set_option maxRecDepth 100000 in
theorem mX0_countCut : mV yX0_countCut cX0_countCut 5 (some .int) 1 := ⟨tw1349, tw1347, tw1348, tw6, by decide +kernel, by decide +kernel, by decide +kernel⟩
set_option maxRecDepth 100000 in
theorem mX0_isCut : mV yX0_isCut cX0_isCut 5 (some .boolean) 2 := ⟨tw1353, tw1352, (gw_s 59 rfl), tw6, by decide +kernel, by decide +kernel, by decide +kernel⟩
set_option maxRecDepth 100000 in
theorem mX1_hasPerson : mV yX1_hasPerson cX1_hasPerson 2 (some .boolean) 1 := ⟨tw924, tw922, tw923, tw3, by decide +kernel, by decide +kernel, by decide +kernel⟩
set_option maxRecDepth 100000 in
theorem mX1_hasUnion : mV yX1_hasUnion cX1_hasUnion 2 (some .boolean) 1 := ⟨tw961, tw959, tw960, tw3, by decide +kernel, by decide +kernel, by decide +kernel⟩
set_option maxRecDepth 100000 in
theorem mX1_clear : mV yX1_clear cX1_clear 1 none 0 := ⟨tw791, tw789, tw790, tw3, by decide +kernel, by decide +kernel, by decide +kernel⟩
set_option maxRecDepth 100000 in
theorem mX1_addPerson : mV yX1_addPerson cX1_addPerson 2 (some .int) 0 := ⟨tw848, tw846, tw847, tw3, by decide +kernel, by decide +kernel, by decide +kernel⟩
set_option maxRecDepth 100000 in
theorem mX1_addLetter : mV yX1_addLetter cX1_addLetter 4 none 2 := ⟨tw856, tw854, tw855, tw3, by decide +kernel, by decide +kernel, by decide +kernel⟩
set_option maxRecDepth 100000 in
theorem mX1_addUnion : mV yX1_addUnion cX1_addUnion 5 (some .int) 3 := ⟨tw890, tw888, tw889, tw3, by decide +kernel, by decide +kernel, by decide +kernel⟩
set_option maxRecDepth 100000 in
theorem mX1_copyFrom : mV yX1_copyFrom cX1_copyFrom 2 none 1 := ⟨tw904, tw902, tw903, tw3, by decide +kernel, by decide +kernel, by decide +kernel⟩
set_option maxRecDepth 100000 in
theorem mX1_refresh : mV yX1_refresh cX1_refresh 4 none 0 := ⟨tw473, tw471, tw472, tw3, by decide +kernel, by decide +kernel, by decide +kernel⟩
set_option maxRecDepth 100000 in
theorem mX1_passDown : mV yX1_passDown cX1_passDown 6 (some .boolean) 1 := ⟨tw480, tw479, (gw_s 5 rfl), tw3, by decide +kernel, by decide +kernel, by decide +kernel⟩
set_option maxRecDepth 100000 in
theorem mX1_noteLevel : mV yX1_noteLevel cX1_noteLevel 5 none 1 := ⟨tw500, tw499, (gw_s 6 rfl), tw3, by decide +kernel, by decide +kernel, by decide +kernel⟩
set_option maxRecDepth 100000 in
theorem mX1_lineageMask : mV yX1_lineageMask cX1_lineageMask 2 (some .int) 1 := ⟨tw495, tw493, tw494, tw3, by decide +kernel, by decide +kernel, by decide +kernel⟩
set_option maxRecDepth 100000 in
theorem mX1_hasParents : mV yX1_hasParents cX1_hasParents 2 (some .boolean) 1 := ⟨tw379, tw377, tw378, tw3, by decide +kernel, by decide +kernel, by decide +kernel⟩
set_option maxRecDepth 100000 in
theorem mX1_firstParent : mV yX1_firstParent cX1_firstParent 2 (some .int) 1 := ⟨tw484, tw482, tw483, tw3, by decide +kernel, by decide +kernel, by decide +kernel⟩
set_option maxRecDepth 100000 in
theorem mX1_secondParent : mV yX1_secondParent cX1_secondParent 2 (some .int) 1 := ⟨tw488, tw486, tw487, tw3, by decide +kernel, by decide +kernel, by decide +kernel⟩
set_option maxRecDepth 100000 in
theorem mX1_otherPartner : mV yX1_otherPartner cX1_otherPartner 4 (some .int) 2 := ⟨tw1108, tw1106, tw1107, tw3, by decide +kernel, by decide +kernel, by decide +kernel⟩
set_option maxRecDepth 100000 in
theorem mX1_isPartner : mV yX1_isPartner cX1_isPartner 3 (some .boolean) 2 := ⟨tw392, tw390, tw391, tw3, by decide +kernel, by decide +kernel, by decide +kernel⟩
set_option maxRecDepth 100000 in
theorem mX1_unionOfPair : mV yX1_unionOfPair cX1_unionOfPair 4 (some .int) 2 := ⟨tw886, tw884, tw885, tw3, by decide +kernel, by decide +kernel, by decide +kernel⟩
set_option maxRecDepth 100000 in
theorem mX1_partnerOrAncestor : mV yX1_partnerOrAncestor cX1_partnerOrAncestor 4 (some .boolean) 2 := ⟨tw899, tw897, tw898, tw3, by decide +kernel, by decide +kernel, by decide +kernel⟩
set_option maxRecDepth 100000 in
theorem mX1_childMask : mV yX1_childMask cX1_childMask 4 (some .int) 1 := ⟨tw396, tw394, tw395, tw3, by decide +kernel, by decide +kernel, by decide +kernel⟩
set_option maxRecDepth 100000 in
theorem mX1_childMaskOfPerson : mV yX1_childMaskOfPerson cX1_childMaskOfPerson 4 (some .int) 1 := ⟨tw388, tw386, tw387, tw3, by decide +kernel, by decide +kernel, by decide +kernel⟩
set_option maxRecDepth 100000 in
theorem mX1_descendantMask : mV yX1_descendantMask cX1_descendantMask 4 (some .int) 1 := ⟨tw1195, tw1193, tw1194, tw3, by decide +kernel, by decide +kernel, by decide +kernel⟩
set_option maxRecDepth 100000 in
theorem mX1_countUnionsOf : mV yX1_countUnionsOf cX1_countUnionsOf 4 (some .int) 1 := ⟨tw1138, tw1136, tw1137, tw3, by decide +kernel, by decide +kernel, by decide +kernel⟩
set_option maxRecDepth 100000 in
theorem mX1_countWithoutParents : mV yX1_countWithoutParents cX1_countWithoutParents 3 (some .int) 0 := ⟨tw375, tw373, tw374, tw3, by decide +kernel, by decide +kernel, by decide +kernel⟩
set_option maxRecDepth 100000 in
theorem mX1_countWithoutChildren : mV yX1_countWithoutChildren cX1_countWithoutChildren 3 (some .int) 0 := ⟨tw384, tw382, tw383, tw3, by decide +kernel, by decide +kernel, by decide +kernel⟩
set_option maxRecDepth 100000 in
theorem mX2_forgetAll : mV yX2_forgetAll cX2_forgetAll 1 none 0 := ⟨tw909, tw907, tw908, tw8, by decide +kernel, by decide +kernel, by decide +kernel⟩
set_option maxRecDepth 100000 in
theorem mX2_record : mV yX2_record cX2_record 1 none 0 := ⟨tw407, tw405, tw406, tw8, by decide +kernel, by decide +kernel, by decide +kernel⟩
set_option maxRecDepth 100000 in
theorem mX2_takeBack : mV yX2_takeBack cX2_takeBack 1 none 0 := ⟨tw464, tw462, tw463, tw8, by decide +kernel, by decide +kernel, by decide +kernel⟩
set_option maxRecDepth 100000 in
theorem mX2_keepSnapshot : mV yX2_keepSnapshot cX2_keepSnapshot 1 none 0 := ⟨tw513, tw511, tw512, tw8, by decide +kernel, by decide +kernel, by decide +kernel⟩
set_option maxRecDepth 100000 in
theorem mX2_bringSnapshot : mV yX2_bringSnapshot cX2_bringSnapshot 1 none 0 := ⟨tw521, tw519, tw520, tw8, by decide +kernel, by decide +kernel, by decide +kernel⟩
set_option maxRecDepth 100000 in
theorem mX2_save : mV yX2_save cX2_save 3 none 1 := ⟨tw411, tw410, (gw_s 0 rfl), tw8, by decide +kernel, by decide +kernel, by decide +kernel⟩
set_option maxRecDepth 100000 in
theorem mX2_bring : mV yX2_bring cX2_bring 3 none 1 := ⟨tw468, tw467, (gw_s 4 rfl), tw8, by decide +kernel, by decide +kernel, by decide +kernel⟩
set_option maxRecDepth 100000 in
theorem mX3_hasRoom : mV yX3_hasRoom cX3_hasRoom 1 (some .boolean) 0 := ⟨tw689, tw687, tw688, tw2, by decide +kernel, by decide +kernel, by decide +kernel⟩
set_option maxRecDepth 100000 in
theorem mX3_append : mV yX3_append cX3_append 3 none 1 := ⟨tw693, tw691, tw692, tw2, by decide +kernel, by decide +kernel, by decide +kernel⟩
set_option maxRecDepth 100000 in
theorem mX3_open : mV yX3_open cX3_open 2 none 1 := ⟨tw796, tw794, tw795, tw2, by decide +kernel, by decide +kernel, by decide +kernel⟩
set_option maxRecDepth 100000 in
theorem mX3_advance : mV yX3_advance cX3_advance 1 none 0 := ⟨tw800, tw798, tw799, tw2, by decide +kernel, by decide +kernel, by decide +kernel⟩
set_option maxRecDepth 100000 in
theorem mX3_kindOf : mS yX3_kindOf cX3_kindOf 1 (some .int) 1 := ⟨tw808, tw807, tw2, by decide +kernel, by decide +kernel, by decide +kernel⟩
set_option maxRecDepth 100000 in
theorem mX3_isFine : mV yX3_isFine cX3_isFine 1 (some .boolean) 0 := ⟨tw804, tw802, tw803, tw2, by decide +kernel, by decide +kernel, by decide +kernel⟩
set_option maxRecDepth 100000 in
theorem mX3_fail : mV yX3_fail cX3_fail 2 none 1 := ⟨tw826, tw824, tw825, tw2, by decide +kernel, by decide +kernel, by decide +kernel⟩
set_option maxRecDepth 100000 in
theorem mX3_wordLength : mV yX3_wordLength cX3_wordLength 1 (some .int) 0 := ⟨tw835, tw833, tw834, tw2, by decide +kernel, by decide +kernel, by decide +kernel⟩
set_option maxRecDepth 100000 in
theorem mX3_letter : mV yX3_letter cX3_letter 2 (some .int) 1 := ⟨tw852, tw850, tw851, tw2, by decide +kernel, by decide +kernel, by decide +kernel⟩
set_option maxRecDepth 100000 in
theorem mX3_isWord : mV yX3_isWord cX3_isWord 3 (some .boolean) 1 := ⟨tw816, tw814, tw815, tw2, by decide +kernel, by decide +kernel, by decide +kernel⟩
set_option maxRecDepth 100000 in
theorem mX3_isSpelled : mV yX3_isSpelled cX3_isSpelled 5 (some .boolean) 3 := ⟨tw844, tw842, tw843, tw2, by decide +kernel, by decide +kernel, by decide +kernel⟩
set_option maxRecDepth 100000 in
theorem mX3_isSign : mV yX3_isSign cX3_isSign 2 (some .boolean) 1 := ⟨tw869, tw867, tw868, tw2, by decide +kernel, by decide +kernel, by decide +kernel⟩
set_option maxRecDepth 100000 in
theorem mX4_printLine : mV yX4_printLine cX4_printLine 3 none 1 := ⟨tw1282, tw1280, tw1281, tw7, by decide +kernel, by decide +kernel, by decide +kernel⟩
set_option maxRecDepth 100000 in
theorem mX4_clearLine : mV yX4_clearLine cX4_clearLine 2 none 0 := ⟨tw1286, tw1285, (gw_s 52 rfl), tw7, by decide +kernel, by decide +kernel, by decide +kernel⟩
set_option maxRecDepth 100000 in
theorem mX4_printByte : mV yX4_printByte cX4_printByte 3 none 2 := ⟨tw1303, tw1302, (gw_s 55 rfl), tw7, by decide +kernel, by decide +kernel, by decide +kernel⟩
set_option maxRecDepth 100000 in
theorem mX4_printBoxes : mV yX4_printBoxes cX4_printBoxes 3 none 1 := ⟨tw1291, tw1290, (gw_s 53 rfl), tw7, by decide +kernel, by decide +kernel, by decide +kernel⟩
set_option maxRecDepth 100000 in
theorem mX4_printBox : mV yX4_printBox cX4_printBox 7 none 1 := ⟨tw1297, tw1296, (gw_s 54 rfl), tw7, by decide +kernel, by decide +kernel, by decide +kernel⟩
set_option maxRecDepth 100000 in
theorem mX4_printUnionMarks : mV yX4_printUnionMarks cX4_printUnionMarks 3 none 1 := ⟨tw1309, tw1308, (gw_s 56 rfl), tw7, by decide +kernel, by decide +kernel, by decide +kernel⟩
set_option maxRecDepth 100000 in
theorem mX4_freeColumn : mV yX4_freeColumn cX4_freeColumn 3 (some .int) 1 := ⟨tw1314, tw1313, (gw_s 57 rfl), tw7, by decide +kernel, by decide +kernel, by decide +kernel⟩
set_option maxRecDepth 100000 in
theorem mX4_printPersonMarks : mV yX4_printPersonMarks cX4_printPersonMarks 4 none 1 := ⟨tw1321, tw1320, (gw_s 58 rfl), tw7, by decide +kernel, by decide +kernel, by decide +kernel⟩
set_option maxRecDepth 100000 in
theorem mX4_markOf : mS yX4_markOf cX4_markOf 1 (some .int) 1 := ⟨tw1317, tw1316, tw7, by decide +kernel, by decide +kernel, by decide +kernel⟩
set_option maxRecDepth 100000 in
theorem mX4_widest : mV yX4_widest cX4_widest 3 (some .int) 0 := ⟨tw1278, tw1276, tw1277, tw7, by decide +kernel, by decide +kernel, by decide +kernel⟩
set_option maxRecDepth 100000 in
theorem mX4_cutText : mV yX4_cutText cX4_cutText 7 none 2 := ⟨tw1332, tw1330, tw1331, tw7, by decide +kernel, by decide +kernel, by decide +kernel⟩
set_option maxRecDepth 100000 in
theorem mX6_kinshipOf : mV yX6_kinshipOf cX6_kinshipOf 4 (some .long) 2 := ⟨tw1223, tw1221, tw1222, tw4, by decide +kernel, by decide +kernel, by decide +kernel⟩
set_option maxRecDepth 100000 in
theorem mX6_putKinship : mV yX6_putKinship cX6_putKinship 6 none 3 := ⟨tw1228, tw1227, (gw_s 50 rfl), tw4, by decide +kernel, by decide +kernel, by decide +kernel⟩
set_option maxRecDepth 100000 in
theorem mX6_noteKinships : mV yX6_noteKinships cX6_noteKinships 3 none 0 := ⟨tw1212, tw1210, tw1211, tw4, by decide +kernel, by decide +kernel, by decide +kernel⟩
set_option maxRecDepth 100000 in
theorem mX6_noteKinshipsOf : mV yX6_noteKinshipsOf cX6_noteKinshipsOf 9 none 2 := ⟨tw1217, tw1216, (gw_s 49 rfl), tw4, by decide +kernel, by decide +kernel, by decide +kernel⟩
set_option maxRecDepth 100000 in
theorem mX6_stepsBetween : mV yX6_stepsBetween cX6_stepsBetween 5 (some .int) 2 := ⟨tw1238, tw1236, tw1237, tw4, by decide +kernel, by decide +kernel, by decide +kernel⟩
set_option maxRecDepth 100000 in
theorem mX6_neighbours : mV yX6_neighbours cX6_neighbours 5 (some .int) 1 := ⟨tw1243, tw1242, (gw_s 51 rfl), tw4, by decide +kernel, by decide +kernel, by decide +kernel⟩
set_option maxRecDepth 100000 in
theorem mX6_countLines : mV yX6_countLines cX6_countLines 5 (some .int) 2 := ⟨tw1251, tw1249, tw1250, tw4, by decide +kernel, by decide +kernel, by decide +kernel⟩
set_option maxRecDepth 100000 in
theorem mX7_layPlain : mV yX7_layPlain cX7_layPlain 3 none 0 := ⟨tw431, tw429, tw430, tw5, by decide +kernel, by decide +kernel, by decide +kernel⟩
set_option maxRecDepth 100000 in
theorem mX7_noteBoxesOfUnions : mV yX7_noteBoxesOfUnions cX7_noteBoxesOfUnions 5 none 0 := ⟨tw435, tw434, (gw_s 1 rfl), tw5, by decide +kernel, by decide +kernel, by decide +kernel⟩
set_option maxRecDepth 100000 in
theorem mX7_layRow : mV yX7_layRow cX7_layRow 5 (some .int) 2 := ⟨tw440, tw439, (gw_s 2 rfl), tw5, by decide +kernel, by decide +kernel, by decide +kernel⟩
set_option maxRecDepth 100000 in
theorem mX7_notePlaces : mV yX7_notePlaces cX7_notePlaces 3 none 0 := ⟨tw444, tw443, (gw_s 3 rfl), tw5, by decide +kernel, by decide +kernel, by decide +kernel⟩
set_option maxRecDepth 100000 in
theorem mX7_saveOrder : mV yX7_saveOrder cX7_saveOrder 3 none 2 := ⟨tw423, tw421, tw422, tw5, by decide +kernel, by decide +kernel, by decide +kernel⟩
set_option maxRecDepth 100000 in
theorem mX7_bringOrder : mV yX7_bringOrder cX7_bringOrder 3 none 2 := ⟨tw504, tw502, tw503, tw5, by decide +kernel, by decide +kernel, by decide +kernel⟩
set_option maxRecDepth 100000 in
theorem mX7_boxCount : mV yX7_boxCount cX7_boxCount 1 (some .int) 0 := ⟨tw368, tw366, tw367, tw5, by decide +kernel, by decide +kernel, by decide +kernel⟩
set_option maxRecDepth 100000 in
theorem mX7_boxCountOf : mV yX7_boxCountOf cX7_boxCountOf 2 (some .int) 1 := ⟨tw448, tw446, tw447, tw5, by decide +kernel, by decide +kernel, by decide +kernel⟩
set_option maxRecDepth 100000 in
theorem mX7_boxAt : mV yX7_boxAt cX7_boxAt 3 (some .int) 2 := ⟨tw452, tw450, tw451, tw5, by decide +kernel, by decide +kernel, by decide +kernel⟩
set_option maxRecDepth 100000 in
theorem mX7_personOf : mV yX7_personOf cX7_personOf 2 (some .int) 1 := ⟨tw1104, tw1102, tw1103, tw5, by decide +kernel, by decide +kernel, by decide +kernel⟩
set_option maxRecDepth 100000 in
theorem mX7_middleOf : mV yX7_middleOf cX7_middleOf 2 (some .int) 1 := ⟨tw1020, tw1018, tw1019, tw5, by decide +kernel, by decide +kernel, by decide +kernel⟩
set_option maxRecDepth 100000 in
theorem mX7_exchange : mV yX7_exchange cX7_exchange 6 none 3 := ⟨tw987, tw985, tw986, tw5, by decide +kernel, by decide +kernel, by decide +kernel⟩
set_option maxRecDepth 100000 in
theorem mX7_countAllCrossings : mV yX7_countAllCrossings cX7_countAllCrossings 3 (some .int) 0 := ⟨tw991, tw989, tw990, tw5, by decide +kernel, by decide +kernel, by decide +kernel⟩
set_option maxRecDepth 100000 in
theorem mX7_countCrossingsIn : mV yX7_countCrossingsIn cX7_countCrossingsIn 4 (some .int) 1 := ⟨tw995, tw993, tw994, tw5, by decide +kernel, by decide +kernel, by decide +kernel⟩
set_option maxRecDepth 100000 in
theorem mX7_countCrossed : mV yX7_countCrossed cX7_countCrossed 5 (some .int) 2 := ⟨tw999, tw998, (gw_s 30 rfl), tw5, by decide +kernel, by decide +kernel, by decide +kernel⟩
set_option maxRecDepth 100000 in
theorem mX7_cross : mV yX7_cross cX7_cross 7 (some .boolean) 2 := ⟨tw1003, tw1002, (gw_s 31 rfl), tw5, by decide +kernel, by decide +kernel, by decide +kernel⟩
set_option maxRecDepth 100000 in
theorem mX7_liesBetween : mS yX7_liesBetween cX7_liesBetween 3 (some .boolean) 3 := ⟨tw1006, tw1005, tw5, by decide +kernel, by decide +kernel, by decide +kernel⟩
set_option maxRecDepth 100000 in
theorem mX7_countCrossingsBelow : mV yX7_countCrossingsBelow cX7_countCrossingsBelow 8 (some .int) 1 := ⟨tw1012, tw1010, tw1011, tw5, by decide +kernel, by decide +kernel, by decide +kernel⟩
set_option maxRecDepth 100000 in
theorem mX7_middleOfParents : mV yX7_middleOfParents cX7_middleOfParents 2 (some .int) 1 := ⟨tw1016, tw1015, (gw_s 32 rfl), tw5, by decide +kernel, by decide +kernel, by decide +kernel⟩
set_option maxRecDepth 100000 in
theorem mX7_swapWhereBetter : mV yX7_swapWhereBetter cX7_swapWhereBetter 6 (some .int) 0 := ⟨tw1066, tw1064, tw1065, tw5, by decide +kernel, by decide +kernel, by decide +kernel⟩
set_option maxRecDepth 100000 in
theorem mX7_countCrossingsAround : mV yX7_countCrossingsAround cX7_countCrossingsAround 2 (some .int) 1 := ⟨tw1070, tw1069, (gw_s 41 rfl), tw5, by decide +kernel, by decide +kernel, by decide +kernel⟩
set_option maxRecDepth 100000 in
theorem mX7_sortByKeys : mV yX7_sortByKeys cX7_sortByKeys 4 none 0 := ⟨tw1093, tw1091, tw1092, tw5, by decide +kernel, by decide +kernel, by decide +kernel⟩
set_option maxRecDepth 100000 in
theorem mX7_keyOf : mV yX7_keyOf cX7_keyOf 6 (some .int) 2 := ⟨tw1097, tw1096, (gw_s 45 rfl), tw5, by decide +kernel, by decide +kernel, by decide +kernel⟩
set_option maxRecDepth 100000 in
theorem mX7_sortRow : mV yX7_sortRow cX7_sortRow 4 none 1 := ⟨tw1113, tw1112, (gw_s 46 rfl), tw5, by decide +kernel, by decide +kernel, by decide +kernel⟩
set_option maxRecDepth 100000 in
theorem mX7_keyAt : mV yX7_keyAt cX7_keyAt 3 (some .int) 2 := ⟨tw1117, tw1116, (gw_s 47 rfl), tw5, by decide +kernel, by decide +kernel, by decide +kernel⟩
set_option maxRecDepth 100000 in
theorem mX8_read : mV yX8_read cX8_read 3 (some .int) 1 := ⟨tw787, tw785, tw786, tw9, by decide +kernel, by decide +kernel, by decide +kernel⟩
set_option maxRecDepth 100000 in
theorem mX8_readPerson : mV yX8_readPerson cX8_readPerson 3 none 0 := ⟨tw822, tw821, (gw_s 16 rfl), tw9, by decide +kernel, by decide +kernel, by decide +kernel⟩
set_option maxRecDepth 100000 in
theorem mX8_checkNewName : mV yX8_checkNewName cX8_checkNewName 1 none 0 := ⟨tw831, tw830, (gw_s 17 rfl), tw9, by decide +kernel, by decide +kernel, by decide +kernel⟩
set_option maxRecDepth 100000 in
theorem mX8_readUnion : mV yX8_readUnion cX8_readUnion 6 none 0 := ⟨tw874, tw873, (gw_s 21 rfl), tw9, by decide +kernel, by decide +kernel, by decide +kernel⟩
set_option maxRecDepth 100000 in
theorem mX8_checkPair : mV yX8_checkPair cX8_checkPair 3 none 2 := ⟨tw882, tw881, (gw_s 23 rfl), tw9, by decide +kernel, by decide +kernel, by decide +kernel⟩
set_option maxRecDepth 100000 in
theorem mX8_readChild : mV yX8_readChild cX8_readChild 3 none 1 := ⟨tw894, tw893, (gw_s 24 rfl), tw9, by decide +kernel, by decide +kernel, by decide +kernel⟩
set_option maxRecDepth 100000 in
theorem mX8_checkedPerson : mV yX8_checkedPerson cX8_checkedPerson 2 (some .int) 0 := ⟨tw878, tw877, (gw_s 22 rfl), tw9, by decide +kernel, by decide +kernel, by decide +kernel⟩
set_option maxRecDepth 100000 in
theorem mX8_personNamed : mV yX8_personNamed cX8_personNamed 2 (some .int) 0 := ⟨tw839, tw838, (gw_s 18 rfl), tw9, by decide +kernel, by decide +kernel, by decide +kernel⟩
set_option maxRecDepth 100000 in
theorem mX8_readYear : mV yX8_readYear cX8_readYear 2 (some .int) 0 := ⟨tw860, tw859, (gw_s 19 rfl), tw9, by decide +kernel, by decide +kernel, by decide +kernel⟩
set_option maxRecDepth 100000 in
theorem mX8_readSemicolon : mV yX8_readSemicolon cX8_readSemicolon 1 none 0 := ⟨tw865, tw864, (gw_s 20 rfl), tw9, by decide +kernel, by decide +kernel, by decide +kernel⟩
set_option maxRecDepth 100000 in
theorem mX10_gen : mV yX10_gen cX10_gen 2 (some .int) 1 := ⟨tw615, tw614, (gw_s 11 rfl), tw12, by decide +kernel, by decide +kernel, by decide +kernel⟩
set_option maxRecDepth 100000 in
theorem mX10_level : mV yX10_level cX10_level 2 (some .int) 1 := ⟨tw619, tw618, (gw_s 12 rfl), tw12, by decide +kernel, by decide +kernel, by decide +kernel⟩
set_option maxRecDepth 100000 in
theorem mX10_finds : mV yX10_finds cX10_finds 2 (some .int) 1 := ⟨tw609, tw608, (gw_s 10 rfl), tw12, by decide +kernel, by decide +kernel, by decide +kernel⟩
set_option maxRecDepth 100000 in
theorem mX10_up : mV yX10_up cX10_up 3 (some .int) 1 := ⟨tw600, tw599, (gw_s 8 rfl), tw12, by decide +kernel, by decide +kernel, by decide +kernel⟩
set_option maxRecDepth 100000 in
theorem mX10_in : mV yX10_in cX10_in 3 (some .boolean) 2 := ⟨tw593, tw592, (gw_s 7 rfl), tw12, by decide +kernel, by decide +kernel, by decide +kernel⟩
set_option maxRecDepth 100000 in
theorem mX10_less : mV yX10_less cX10_less 3 (some .int) 1 := ⟨tw623, tw622, (gw_s 13 rfl), tw12, by decide +kernel, by decide +kernel, by decide +kernel⟩
set_option maxRecDepth 100000 in
theorem mX10_plain : mV yX10_plain cX10_plain 5 none 0 := ⟨tw605, tw604, (gw_s 9 rfl), tw12, by decide +kernel, by decide +kernel, by decide +kernel⟩
set_option maxRecDepth 100000 in
theorem mX10_place : mV yX10_place cX10_place 4 (some .int) 2 := ⟨tw1048, tw1047, (gw_s 38 rfl), tw12, by decide +kernel, by decide +kernel, by decide +kernel⟩
set_option maxRecDepth 100000 in
theorem mX10_box : mV yX10_box cX10_box 4 (some .int) 2 := ⟨tw1044, tw1043, (gw_s 37 rfl), tw12, by decide +kernel, by decide +kernel, by decide +kernel⟩
set_option maxRecDepth 100000 in
theorem mX10_at : mV yX10_at cX10_at 3 (some .int) 2 := ⟨tw1040, tw1039, (gw_s 36 rfl), tw12, by decide +kernel, by decide +kernel, by decide +kernel⟩
set_option maxRecDepth 100000 in
theorem mX10_middle : mV yX10_middle cX10_middle 2 (some .int) 1 := ⟨tw1057, tw1056, (gw_s 40 rfl), tw12, by decide +kernel, by decide +kernel, by decide +kernel⟩
set_option maxRecDepth 100000 in
theorem mX10_inRow : mV yX10_inRow cX10_inRow 9 (some .int) 1 := ⟨tw1036, tw1035, (gw_s 35 rfl), tw12, by decide +kernel, by decide +kernel, by decide +kernel⟩
set_option maxRecDepth 100000 in
theorem mX10_below : mV yX10_below cX10_below 5 (some .int) 1 := ⟨tw1053, tw1052, (gw_s 39 rfl), tw12, by decide +kernel, by decide +kernel, by decide +kernel⟩
set_option maxRecDepth 100000 in
theorem mX10_all : mV yX10_all cX10_all 3 (some .int) 0 := ⟨tw1032, tw1031, (gw_s 34 rfl), tw12, by decide +kernel, by decide +kernel, by decide +kernel⟩
set_option maxRecDepth 100000 in
theorem mX10_turn : mV yX10_turn cX10_turn 5 none 3 := ⟨tw1024, tw1023, (gw_s 33 rfl), tw12, by decide +kernel, by decide +kernel, by decide +kernel⟩
set_option maxRecDepth 100000 in
theorem mX10_key : mV yX10_key cX10_key 2 (some .int) 1 := ⟨tw1085, tw1084, (gw_s 44 rfl), tw12, by decide +kernel, by decide +kernel, by decide +kernel⟩
set_option maxRecDepth 100000 in
theorem mX10_arrange : mV yX10_arrange cX10_arrange 8 none 0 := ⟨tw1081, tw1080, (gw_s 43 rfl), tw12, by decide +kernel, by decide +kernel, by decide +kernel⟩
set_option maxRecDepth 100000 in
theorem mX10_improve : mV yX10_improve cX10_improve 8 (some .int) 1 := ⟨tw1075, tw1074, (gw_s 42 rfl), tw12, by decide +kernel, by decide +kernel, by decide +kernel⟩
