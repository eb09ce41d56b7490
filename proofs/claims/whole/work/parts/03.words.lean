def gw_0 : Cond := Cond.initialized "ChoraleSearchLaw"
def gw_1 : Cond := Cond.initialized "ChoraleSearch"
def gw_2 : Cond := Cond.initialized "ChoraleSearch$Score"
def gw_3 : Cond := Cond.initialized "ChoraleSearch$Harmony"
def gw_4 : Cond := Cond.initialized "java/util/Arrays"
def gw_5 : Cond := Cond.initialized "ChoraleSearch$StateRules"
def gw_6 : Cond := Cond.initialized "ChoraleSearch$StepRules"
def gw_7 : Cond := Cond.initialized "ChoraleSearch$Table"
def gw_8 : Cond := Cond.initialized "ChoraleSearch$Layer"
def gw_9 : Cond := Cond.initialized "ChoraleSearch$Reach"
def gw_10 : Cond := Cond.initialized "ChoraleSearch$RowSearch"
def gw_11 : Cond := Cond.initialized "ChoraleSearch$Costs"
def gw_12 : Cond := Cond.initialized "ChoraleSearchModel"
def gw_13 : Cond := Cond.initialized "java/lang/Math"
def gw_14 : Cond := Cond.initialized "ChoraleSearch$Code"
def gw_15 : Cond := Cond.initialized "java/lang/Integer"
def gw_16 : Cond := Cond.classLink "ChoraleSearchLaw" 7 "ChoraleSearch"
def gw_17 : Cond := Cond.instantiable "ChoraleSearch" 5
def gw_18 : Cond := Cond.methodLink "ChoraleSearchLaw" 9 ⟨"ChoraleSearch", "<init>", "()V"⟩
def gw_19 : Cond := Cond.instanceMethod ⟨"ChoraleSearch", "<init>", "()V"⟩
def gw_20 : Cond := Cond.code ⟨"ChoraleSearch", "<init>", "()V"⟩ prog_1_method_1_code 3 none
def gw_21 : Cond := Cond.methodLink "ChoraleSearch" 1 ⟨"java/lang/Object", "<init>", "()V"⟩
def gw_22 : Cond := Cond.instanceMethod ⟨"java/lang/Object", "<init>", "()V"⟩
def gw_23 : Cond := Cond.code ⟨"java/lang/Object", "<init>", "()V"⟩ object_method_1_code 1 none
def gw_24 : Cond := Cond.classLink "ChoraleSearch" 7 "ChoraleSearch$Score"
def gw_25 : Cond := Cond.instantiable "ChoraleSearch$Score" 9
def gw_27 : Cond := Cond.instanceMethod ⟨"ChoraleSearch$Score", "<init>", "()V"⟩
def gw_28 : Cond := Cond.code ⟨"ChoraleSearch$Score", "<init>", "()V"⟩ prog_8_method_1_code 1 none
def gw_29 : Cond := Cond.methodLink "ChoraleSearch$Score" 3 ⟨"java/lang/Object", "<init>", "()V"⟩
def gw_30 : Cond := Cond.methodLink "ChoraleSearch$Score" 41 ⟨"ChoraleSearch$Score", "clearFrom", "(I)V"⟩
def gw_32 : Cond := Cond.instanceMethod ⟨"ChoraleSearch$Score", "clearFrom", "(I)V"⟩
def gw_33 : Cond := Cond.code ⟨"ChoraleSearch$Score", "clearFrom", "(I)V"⟩ prog_8_method_2_code 4 none
def gw_34 : Cond := Cond.fieldLink "ChoraleSearch$Score" 9 "ChoraleSearch$Score" "placeCount" "I"
def gw_39 : Cond := Cond.fieldLink "ChoraleSearch$Score" 15 "ChoraleSearch$Score" "styleChords" "I"
def gw_41 : Cond := Cond.fieldLink "ChoraleSearch$Score" 18 "ChoraleSearch$Score" "pitches" "[I"
def gw_44 : Cond := Cond.fieldLink "ChoraleSearch$Score" 22 "ChoraleSearch$Score" "figures" "[I"
def gw_46 : Cond := Cond.fieldLink "ChoraleSearch$Score" 25 "ChoraleSearch$Score" "inversions" "[I"
def gw_49 : Cond := Cond.fieldLink "ChoraleSearch$Score" 28 "ChoraleSearch$Score" "fermatas" "[Z"
def gw_52 : Cond := Cond.fieldLink "ChoraleSearch$Score" 32 "ChoraleSearch$Score" "prices" "[I"
def gw_55 : Cond := Cond.fieldLink "ChoraleSearch$Score" 35 "ChoraleSearch$Score" "lows" "[I"
def gw_57 : Cond := Cond.fieldLink "ChoraleSearch$Score" 38 "ChoraleSearch$Score" "highs" "[I"
def gw_59 : Cond := Cond.lays "ChoraleSearch$Score" "ChoraleSearch$Score" "placeCount" "I"
def gw_61 : Cond := Cond.lays "ChoraleSearch$Score" "ChoraleSearch$Score" "styleChords" "I"
def gw_63 : Cond := Cond.laysFinal "ChoraleSearch$Score" "ChoraleSearch$Score" "pitches" "[I"
def gw_65 : Cond := Cond.laysFinal "ChoraleSearch$Score" "ChoraleSearch$Score" "figures" "[I"
def gw_67 : Cond := Cond.laysFinal "ChoraleSearch$Score" "ChoraleSearch$Score" "inversions" "[I"
def gw_69 : Cond := Cond.laysFinal "ChoraleSearch$Score" "ChoraleSearch$Score" "fermatas" "[Z"
def gw_71 : Cond := Cond.laysFinal "ChoraleSearch$Score" "ChoraleSearch$Score" "prices" "[I"
def gw_73 : Cond := Cond.laysFinal "ChoraleSearch$Score" "ChoraleSearch$Score" "lows" "[I"
def gw_75 : Cond := Cond.laysFinal "ChoraleSearch$Score" "ChoraleSearch$Score" "highs" "[I"
def gw_78 : Cond := Cond.arrayClass FieldType.int
def gw_79 : Cond := Cond.arrayClass FieldType.boolean
def gw_80 : Cond := Cond.classLink "ChoraleSearch" 16 "ChoraleSearch$Harmony"
def gw_81 : Cond := Cond.instantiable "ChoraleSearch$Harmony" 7
def gw_83 : Cond := Cond.instanceMethod ⟨"ChoraleSearch$Harmony", "<init>", "()V"⟩
def gw_84 : Cond := Cond.code ⟨"ChoraleSearch$Harmony", "<init>", "()V"⟩ prog_4_method_1_code 3 none
def gw_85 : Cond := Cond.methodLink "ChoraleSearch$Harmony" 3 ⟨"java/lang/Object", "<init>", "()V"⟩
def gw_86 : Cond := Cond.methodLink "ChoraleSearch$Harmony" 24 ⟨"ChoraleSearch$Harmony", "grammar", "(II)I"⟩
def gw_87 : Cond := Cond.static ⟨"ChoraleSearch$Harmony", "grammar", "(II)I"⟩
def gw_88 : Cond := Cond.code ⟨"ChoraleSearch$Harmony", "grammar", "(II)I"⟩ prog_4_method_4_code 2 (some .int)
def gw_89 : Cond := Cond.fieldLink "ChoraleSearch$Harmony" 57 "ChoraleSearch$Harmony" "FUNCTIONS" "[I"
def gw_91 : Cond := Cond.methodLink "ChoraleSearch$Harmony" 60 ⟨"ChoraleSearch$Harmony", "fromSubdominant", "(II)I"⟩
def gw_92 : Cond := Cond.static ⟨"ChoraleSearch$Harmony", "fromSubdominant", "(II)I"⟩
def gw_93 : Cond := Cond.code ⟨"ChoraleSearch$Harmony", "fromSubdominant", "(II)I"⟩ prog_4_method_5_code 2 (some .int)
def gw_94 : Cond := Cond.methodLink "ChoraleSearch$Harmony" 63 ⟨"ChoraleSearch$Harmony", "fromDominant", "(II)I"⟩
def gw_95 : Cond := Cond.static ⟨"ChoraleSearch$Harmony", "fromDominant", "(II)I"⟩
def gw_96 : Cond := Cond.code ⟨"ChoraleSearch$Harmony", "fromDominant", "(II)I"⟩ prog_4_method_6_code 2 (some .int)
def gw_97 : Cond := Cond.methodLink "ChoraleSearch$Harmony" 66 ⟨"ChoraleSearch$Harmony", "fromApplied", "(II)I"⟩
def gw_98 : Cond := Cond.static ⟨"ChoraleSearch$Harmony", "fromApplied", "(II)I"⟩
def gw_99 : Cond := Cond.code ⟨"ChoraleSearch$Harmony", "fromApplied", "(II)I"⟩ prog_4_method_7_code 2 (some .int)
def gw_100 : Cond := Cond.methodLink "ChoraleSearch$Harmony" 28 ⟨"ChoraleSearch$Harmony", "tune", "(II)V"⟩
def gw_102 : Cond := Cond.instanceMethod ⟨"ChoraleSearch$Harmony", "tune", "(II)V"⟩
def gw_103 : Cond := Cond.code ⟨"ChoraleSearch$Harmony", "tune", "(II)V"⟩ prog_4_method_2_code 5 none
def gw_104 : Cond := Cond.methodLink "ChoraleSearch$Harmony" 42 ⟨"java/util/Arrays", "fill", "([II)V"⟩
def gw_105 : Cond := Cond.static ⟨"java/util/Arrays", "fill", "([II)V"⟩
def gw_106 : Cond := Cond.code ⟨"java/util/Arrays", "fill", "([II)V"⟩ prog_16_method_103_code 4 none
def gw_107 : Cond := Cond.methodLink "ChoraleSearch$Harmony" 48 ⟨"ChoraleSearch$Harmony", "tuneMember", "(II)V"⟩
def gw_109 : Cond := Cond.instanceMethod ⟨"ChoraleSearch$Harmony", "tuneMember", "(II)V"⟩
def gw_110 : Cond := Cond.code ⟨"ChoraleSearch$Harmony", "tuneMember", "(II)V"⟩ prog_4_method_3_code 6 none
def gw_111 : Cond := Cond.fieldLink "ChoraleSearch$Harmony" 51 "ChoraleSearch$Harmony" "MINOR" "[I"
def gw_113 : Cond := Cond.fieldLink "ChoraleSearch$Harmony" 54 "ChoraleSearch$Harmony" "MAJOR" "[I"
def gw_115 : Cond := Cond.fieldLink "ChoraleSearch$Harmony" 32 "ChoraleSearch$Harmony" "tonic" "I"
def gw_117 : Cond := Cond.fieldLink "ChoraleSearch$Harmony" 36 "ChoraleSearch$Harmony" "minor" "I"
def gw_119 : Cond := Cond.fieldLink "ChoraleSearch$Harmony" 39 "ChoraleSearch$Harmony" "leadingClass" "I"
def gw_122 : Cond := Cond.fieldLink "ChoraleSearch$Harmony" 11 "ChoraleSearch$Harmony" "memberClasses" "[I"
def gw_123 : Cond := Cond.fieldLink "ChoraleSearch$Harmony" 15 "ChoraleSearch$Harmony" "chordsByMember" "[I"
def gw_124 : Cond := Cond.fieldLink "ChoraleSearch$Harmony" 18 "ChoraleSearch$Harmony" "chordsByClass" "[I"
def gw_125 : Cond := Cond.fieldLink "ChoraleSearch$Harmony" 21 "ChoraleSearch$Harmony" "units" "[I"
def gw_126 : Cond := Cond.lays "ChoraleSearch$Harmony" "ChoraleSearch$Harmony" "tonic" "I"
def gw_128 : Cond := Cond.lays "ChoraleSearch$Harmony" "ChoraleSearch$Harmony" "minor" "I"
def gw_130 : Cond := Cond.lays "ChoraleSearch$Harmony" "ChoraleSearch$Harmony" "leadingClass" "I"
def gw_132 : Cond := Cond.laysFinal "ChoraleSearch$Harmony" "ChoraleSearch$Harmony" "memberClasses" "[I"
def gw_134 : Cond := Cond.laysFinal "ChoraleSearch$Harmony" "ChoraleSearch$Harmony" "chordsByMember" "[I"
def gw_136 : Cond := Cond.laysFinal "ChoraleSearch$Harmony" "ChoraleSearch$Harmony" "chordsByClass" "[I"
def gw_138 : Cond := Cond.laysFinal "ChoraleSearch$Harmony" "ChoraleSearch$Harmony" "units" "[I"
def gw_141 : Cond := Cond.classLink "ChoraleSearch" 23 "ChoraleSearch$StateRules"
def gw_142 : Cond := Cond.instantiable "ChoraleSearch$StateRules" 5
def gw_144 : Cond := Cond.instanceMethod ⟨"ChoraleSearch$StateRules", "<init>", "(LChoraleSearch$Score;LChoraleSearch$Harmony;)V"⟩
def gw_145 : Cond := Cond.code ⟨"ChoraleSearch$StateRules", "<init>", "(LChoraleSearch$Score;LChoraleSearch$Harmony;)V"⟩ prog_9_method_1_code 3 none
def gw_146 : Cond := Cond.methodLink "ChoraleSearch$StateRules" 3 ⟨"java/lang/Object", "<init>", "()V"⟩
def gw_147 : Cond := Cond.fieldLink "ChoraleSearch$StateRules" 21 "ChoraleSearch$StateRules" "score" "LChoraleSearch$Score;"
def gw_148 : Cond := Cond.fieldLink "ChoraleSearch$StateRules" 25 "ChoraleSearch$StateRules" "harmony" "LChoraleSearch$Harmony;"
def gw_149 : Cond := Cond.fieldLink "ChoraleSearch$StateRules" 9 "ChoraleSearch$StateRules" "bottoms" "[I"
def gw_150 : Cond := Cond.fieldLink "ChoraleSearch$StateRules" 15 "ChoraleSearch$StateRules" "tops" "[I"
def gw_151 : Cond := Cond.fieldLink "ChoraleSearch$StateRules" 18 "ChoraleSearch$StateRules" "members" "[I"
def gw_152 : Cond := Cond.laysFinal "ChoraleSearch$StateRules" "ChoraleSearch$StateRules" "score" "LChoraleSearch$Score;"
def gw_154 : Cond := Cond.laysFinal "ChoraleSearch$StateRules" "ChoraleSearch$StateRules" "harmony" "LChoraleSearch$Harmony;"
def gw_156 : Cond := Cond.laysFinal "ChoraleSearch$StateRules" "ChoraleSearch$StateRules" "bottoms" "[I"
def gw_158 : Cond := Cond.laysFinal "ChoraleSearch$StateRules" "ChoraleSearch$StateRules" "tops" "[I"
def gw_160 : Cond := Cond.laysFinal "ChoraleSearch$StateRules" "ChoraleSearch$StateRules" "members" "[I"
def gw_163 : Cond := Cond.classLink "ChoraleSearch" 28 "ChoraleSearch$StepRules"
def gw_164 : Cond := Cond.instantiable "ChoraleSearch$StepRules" 5
def gw_166 : Cond := Cond.instanceMethod ⟨"ChoraleSearch$StepRules", "<init>", "(LChoraleSearch$Harmony;)V"⟩
def gw_167 : Cond := Cond.code ⟨"ChoraleSearch$StepRules", "<init>", "(LChoraleSearch$Harmony;)V"⟩ prog_10_method_1_code 2 none
def gw_168 : Cond := Cond.methodLink "ChoraleSearch$StepRules" 3 ⟨"java/lang/Object", "<init>", "()V"⟩
def gw_169 : Cond := Cond.fieldLink "ChoraleSearch$StepRules" 18 "ChoraleSearch$StepRules" "harmony" "LChoraleSearch$Harmony;"
def gw_170 : Cond := Cond.fieldLink "ChoraleSearch$StepRules" 51 "ChoraleSearch$StepRules" "fromChord" "I"
def gw_171 : Cond := Cond.fieldLink "ChoraleSearch$StepRules" 55 "ChoraleSearch$StepRules" "toChord" "I"
def gw_172 : Cond := Cond.fieldLink "ChoraleSearch$StepRules" 9 "ChoraleSearch$StepRules" "before" "[I"
def gw_173 : Cond := Cond.fieldLink "ChoraleSearch$StepRules" 15 "ChoraleSearch$StepRules" "after" "[I"
def gw_174 : Cond := Cond.laysFinal "ChoraleSearch$StepRules" "ChoraleSearch$StepRules" "harmony" "LChoraleSearch$Harmony;"
def gw_176 : Cond := Cond.lays "ChoraleSearch$StepRules" "ChoraleSearch$StepRules" "fromChord" "I"
def gw_178 : Cond := Cond.lays "ChoraleSearch$StepRules" "ChoraleSearch$StepRules" "toChord" "I"
def gw_180 : Cond := Cond.laysFinal "ChoraleSearch$StepRules" "ChoraleSearch$StepRules" "before" "[I"
def gw_182 : Cond := Cond.laysFinal "ChoraleSearch$StepRules" "ChoraleSearch$StepRules" "after" "[I"
def gw_185 : Cond := Cond.classLink "ChoraleSearch" 33 "ChoraleSearch$Table"
def gw_186 : Cond := Cond.instantiable "ChoraleSearch$Table" 4
def gw_188 : Cond := Cond.instanceMethod ⟨"ChoraleSearch$Table", "<init>", "(LChoraleSearch$Score;LChoraleSearch$StateRules;)V"⟩
def gw_189 : Cond := Cond.code ⟨"ChoraleSearch$Table", "<init>", "(LChoraleSearch$Score;LChoraleSearch$StateRules;)V"⟩ prog_11_method_1_code 4 none
def gw_190 : Cond := Cond.methodLink "ChoraleSearch$Table" 3 ⟨"java/lang/Object", "<init>", "()V"⟩
def gw_191 : Cond := Cond.classLink "ChoraleSearch$Table" 9 "ChoraleSearch$Layer"
def gw_193 : Cond := Cond.instantiable "ChoraleSearch$Layer" 3
def gw_195 : Cond := Cond.instanceMethod ⟨"ChoraleSearch$Layer", "<init>", "()V"⟩
def gw_196 : Cond := Cond.code ⟨"ChoraleSearch$Layer", "<init>", "()V"⟩ prog_5_method_1_code 1 none
def gw_197 : Cond := Cond.methodLink "ChoraleSearch$Layer" 3 ⟨"java/lang/Object", "<init>", "()V"⟩
def gw_198 : Cond := Cond.fieldLink "ChoraleSearch$Layer" 18 "ChoraleSearch$Layer" "size" "I"
def gw_203 : Cond := Cond.fieldLink "ChoraleSearch$Layer" 9 "ChoraleSearch$Layer" "codes" "[I"
def gw_206 : Cond := Cond.fieldLink "ChoraleSearch$Layer" 15 "ChoraleSearch$Layer" "marks" "[I"
def gw_208 : Cond := Cond.lays "ChoraleSearch$Layer" "ChoraleSearch$Layer" "size" "I"
def gw_210 : Cond := Cond.laysFinal "ChoraleSearch$Layer" "ChoraleSearch$Layer" "codes" "[I"
def gw_212 : Cond := Cond.laysFinal "ChoraleSearch$Layer" "ChoraleSearch$Layer" "marks" "[I"
def gw_215 : Cond := Cond.fieldLink "ChoraleSearch$Table" 17 "ChoraleSearch$Table" "score" "LChoraleSearch$Score;"
def gw_216 : Cond := Cond.fieldLink "ChoraleSearch$Table" 21 "ChoraleSearch$Table" "rules" "LChoraleSearch$StateRules;"
def gw_217 : Cond := Cond.fieldLink "ChoraleSearch$Table" 11 "ChoraleSearch$Table" "layers" "[LChoraleSearch$Layer;"
def gw_221 : Cond := Cond.fieldLink "ChoraleSearch$Table" 26 "ChoraleSearch$Table" "fresh" "Z"
def gw_222 : Cond := Cond.laysFinal "ChoraleSearch$Table" "ChoraleSearch$Table" "score" "LChoraleSearch$Score;"
def gw_224 : Cond := Cond.laysFinal "ChoraleSearch$Table" "ChoraleSearch$Table" "rules" "LChoraleSearch$StateRules;"
def gw_226 : Cond := Cond.laysFinal "ChoraleSearch$Table" "ChoraleSearch$Table" "layers" "[LChoraleSearch$Layer;"
def gw_228 : Cond := Cond.lays "ChoraleSearch$Table" "ChoraleSearch$Table" "fresh" "Z"
def gw_231 : Cond := Cond.classLink "ChoraleSearch" 42 "ChoraleSearch$Reach"
def gw_232 : Cond := Cond.instantiable "ChoraleSearch$Reach" 5
def gw_234 : Cond := Cond.instanceMethod ⟨"ChoraleSearch$Reach", "<init>", "(LChoraleSearch$Score;LChoraleSearch$Table;LChoraleSearch$StateRules;LChoraleSearch$StepRules;)V"⟩
def gw_235 : Cond := Cond.code ⟨"ChoraleSearch$Reach", "<init>", "(LChoraleSearch$Score;LChoraleSearch$Table;LChoraleSearch$StateRules;LChoraleSearch$StepRules;)V"⟩ prog_6_method_1_code 5 none
def gw_236 : Cond := Cond.methodLink "ChoraleSearch$Reach" 3 ⟨"java/lang/Object", "<init>", "()V"⟩
def gw_237 : Cond := Cond.classLink "ChoraleSearch$Reach" 9 "ChoraleSearch$Layer"
def gw_239 : Cond := Cond.fieldLink "ChoraleSearch$Reach" 18 "ChoraleSearch$Reach" "score" "LChoraleSearch$Score;"
def gw_240 : Cond := Cond.fieldLink "ChoraleSearch$Reach" 22 "ChoraleSearch$Reach" "table" "LChoraleSearch$Table;"
def gw_241 : Cond := Cond.fieldLink "ChoraleSearch$Reach" 26 "ChoraleSearch$Reach" "stateRules" "LChoraleSearch$StateRules;"
def gw_242 : Cond := Cond.fieldLink "ChoraleSearch$Reach" 30 "ChoraleSearch$Reach" "stepRules" "LChoraleSearch$StepRules;"
def gw_243 : Cond := Cond.fieldLink "ChoraleSearch$Reach" 12 "ChoraleSearch$Reach" "trial" "LChoraleSearch$Layer;"
def gw_244 : Cond := Cond.laysFinal "ChoraleSearch$Reach" "ChoraleSearch$Reach" "score" "LChoraleSearch$Score;"
def gw_246 : Cond := Cond.laysFinal "ChoraleSearch$Reach" "ChoraleSearch$Reach" "table" "LChoraleSearch$Table;"
def gw_248 : Cond := Cond.laysFinal "ChoraleSearch$Reach" "ChoraleSearch$Reach" "stateRules" "LChoraleSearch$StateRules;"
def gw_250 : Cond := Cond.laysFinal "ChoraleSearch$Reach" "ChoraleSearch$Reach" "stepRules" "LChoraleSearch$StepRules;"
def gw_252 : Cond := Cond.laysFinal "ChoraleSearch$Reach" "ChoraleSearch$Reach" "trial" "LChoraleSearch$Layer;"
def gw_255 : Cond := Cond.classLink "ChoraleSearch" 51 "ChoraleSearch$RowSearch"
def gw_256 : Cond := Cond.instantiable "ChoraleSearch$RowSearch" 15
def gw_257 : Cond := Cond.classLink "ChoraleSearch" 53 "ChoraleSearch$Costs"
def gw_258 : Cond := Cond.instantiable "ChoraleSearch$Costs" 2
def gw_260 : Cond := Cond.instanceMethod ⟨"ChoraleSearch$Costs", "<init>", "(LChoraleSearch$Score;LChoraleSearch$Harmony;)V"⟩
def gw_261 : Cond := Cond.code ⟨"ChoraleSearch$Costs", "<init>", "(LChoraleSearch$Score;LChoraleSearch$Harmony;)V"⟩ prog_3_method_1_code 3 none
def gw_262 : Cond := Cond.methodLink "ChoraleSearch$Costs" 3 ⟨"java/lang/Object", "<init>", "()V"⟩
def gw_263 : Cond := Cond.fieldLink "ChoraleSearch$Costs" 9 "ChoraleSearch$Costs" "score" "LChoraleSearch$Score;"
def gw_264 : Cond := Cond.fieldLink "ChoraleSearch$Costs" 15 "ChoraleSearch$Costs" "harmony" "LChoraleSearch$Harmony;"
def gw_265 : Cond := Cond.laysFinal "ChoraleSearch$Costs" "ChoraleSearch$Costs" "score" "LChoraleSearch$Score;"
def gw_267 : Cond := Cond.laysFinal "ChoraleSearch$Costs" "ChoraleSearch$Costs" "harmony" "LChoraleSearch$Harmony;"
def gw_271 : Cond := Cond.instanceMethod ⟨"ChoraleSearch$RowSearch", "<init>", "(LChoraleSearch$Score;LChoraleSearch$Table;LChoraleSearch$StepRules;LChoraleSearch$Costs;)V"⟩
def gw_272 : Cond := Cond.code ⟨"ChoraleSearch$RowSearch", "<init>", "(LChoraleSearch$Score;LChoraleSearch$Table;LChoraleSearch$StepRules;LChoraleSearch$Costs;)V"⟩ prog_7_method_1_code 5 none
def gw_273 : Cond := Cond.methodLink "ChoraleSearch$RowSearch" 3 ⟨"java/lang/Object", "<init>", "()V"⟩
def gw_274 : Cond := Cond.classLink "ChoraleSearch$RowSearch" 9 "[[I"
def gw_276 : Cond := Cond.fieldLink "ChoraleSearch$RowSearch" 38 "ChoraleSearch$RowSearch" "score" "LChoraleSearch$Score;"
def gw_277 : Cond := Cond.fieldLink "ChoraleSearch$RowSearch" 42 "ChoraleSearch$RowSearch" "table" "LChoraleSearch$Table;"
def gw_278 : Cond := Cond.fieldLink "ChoraleSearch$RowSearch" 46 "ChoraleSearch$RowSearch" "steps" "LChoraleSearch$StepRules;"
def gw_279 : Cond := Cond.fieldLink "ChoraleSearch$RowSearch" 50 "ChoraleSearch$RowSearch" "costs" "LChoraleSearch$Costs;"
def gw_280 : Cond := Cond.fieldLink "ChoraleSearch$RowSearch" 11 "ChoraleSearch$RowSearch" "links" "[[I"
def gw_281 : Cond := Cond.fieldLink "ChoraleSearch$RowSearch" 16 "ChoraleSearch$RowSearch" "sums" "[I"
def gw_282 : Cond := Cond.fieldLink "ChoraleSearch$RowSearch" 20 "ChoraleSearch$RowSearch" "laterSums" "[I"
def gw_283 : Cond := Cond.fieldLink "ChoraleSearch$RowSearch" 23 "ChoraleSearch$RowSearch" "alive" "[I"
def gw_284 : Cond := Cond.fieldLink "ChoraleSearch$RowSearch" 126 "ChoraleSearch$RowSearch" "aliveCount" "I"
def gw_285 : Cond := Cond.fieldLink "ChoraleSearch$RowSearch" 26 "ChoraleSearch$RowSearch" "beamStates" "[I"
def gw_286 : Cond := Cond.fieldLink "ChoraleSearch$RowSearch" 29 "ChoraleSearch$RowSearch" "rowLinks" "[I"
def gw_287 : Cond := Cond.fieldLink "ChoraleSearch$RowSearch" 32 "ChoraleSearch$RowSearch" "rowSums" "[I"
def gw_289 : Cond := Cond.fieldLink "ChoraleSearch$RowSearch" 35 "ChoraleSearch$RowSearch" "rowCodes" "[I"
def gw_290 : Cond := Cond.fieldLink "ChoraleSearch$RowSearch" 54 "ChoraleSearch$RowSearch" "rowCount" "I"
def gw_292 : Cond := Cond.fieldLink "ChoraleSearch$RowSearch" 58 "ChoraleSearch$RowSearch" "leftOut" "Z"
def gw_294 : Cond := Cond.laysFinal "ChoraleSearch$RowSearch" "ChoraleSearch$RowSearch" "score" "LChoraleSearch$Score;"
def gw_296 : Cond := Cond.laysFinal "ChoraleSearch$RowSearch" "ChoraleSearch$RowSearch" "table" "LChoraleSearch$Table;"
def gw_298 : Cond := Cond.laysFinal "ChoraleSearch$RowSearch" "ChoraleSearch$RowSearch" "steps" "LChoraleSearch$StepRules;"
def gw_300 : Cond := Cond.laysFinal "ChoraleSearch$RowSearch" "ChoraleSearch$RowSearch" "costs" "LChoraleSearch$Costs;"
def gw_302 : Cond := Cond.laysFinal "ChoraleSearch$RowSearch" "ChoraleSearch$RowSearch" "links" "[[I"
def gw_304 : Cond := Cond.lays "ChoraleSearch$RowSearch" "ChoraleSearch$RowSearch" "sums" "[I"
def gw_306 : Cond := Cond.lays "ChoraleSearch$RowSearch" "ChoraleSearch$RowSearch" "laterSums" "[I"
def gw_308 : Cond := Cond.laysFinal "ChoraleSearch$RowSearch" "ChoraleSearch$RowSearch" "alive" "[I"
def gw_310 : Cond := Cond.lays "ChoraleSearch$RowSearch" "ChoraleSearch$RowSearch" "aliveCount" "I"
def gw_312 : Cond := Cond.laysFinal "ChoraleSearch$RowSearch" "ChoraleSearch$RowSearch" "beamStates" "[I"
def gw_314 : Cond := Cond.laysFinal "ChoraleSearch$RowSearch" "ChoraleSearch$RowSearch" "rowLinks" "[I"
def gw_316 : Cond := Cond.laysFinal "ChoraleSearch$RowSearch" "ChoraleSearch$RowSearch" "rowSums" "[I"
def gw_318 : Cond := Cond.laysFinal "ChoraleSearch$RowSearch" "ChoraleSearch$RowSearch" "rowCodes" "[I"
def gw_320 : Cond := Cond.lays "ChoraleSearch$RowSearch" "ChoraleSearch$RowSearch" "rowCount" "I"
def gw_322 : Cond := Cond.lays "ChoraleSearch$RowSearch" "ChoraleSearch$RowSearch" "leftOut" "Z"
def gw_325 : Cond := Cond.fieldLink "ChoraleSearch" 10 "ChoraleSearch" "score" "LChoraleSearch$Score;"
def gw_326 : Cond := Cond.fieldLink "ChoraleSearch" 19 "ChoraleSearch" "harmony" "LChoraleSearch$Harmony;"
def gw_327 : Cond := Cond.fieldLink "ChoraleSearch" 38 "ChoraleSearch" "table" "LChoraleSearch$Table;"
def gw_328 : Cond := Cond.fieldLink "ChoraleSearch" 47 "ChoraleSearch" "reach" "LChoraleSearch$Reach;"
def gw_329 : Cond := Cond.fieldLink "ChoraleSearch" 59 "ChoraleSearch" "search" "LChoraleSearch$RowSearch;"
def gw_330 : Cond := Cond.laysFinal "ChoraleSearch" "ChoraleSearch" "score" "LChoraleSearch$Score;"
def gw_332 : Cond := Cond.laysFinal "ChoraleSearch" "ChoraleSearch" "harmony" "LChoraleSearch$Harmony;"
def gw_334 : Cond := Cond.laysFinal "ChoraleSearch" "ChoraleSearch" "table" "LChoraleSearch$Table;"
def gw_336 : Cond := Cond.laysFinal "ChoraleSearch" "ChoraleSearch" "reach" "LChoraleSearch$Reach;"
def gw_338 : Cond := Cond.laysFinal "ChoraleSearch" "ChoraleSearch" "search" "LChoraleSearch$RowSearch;"
def gw_341 : Cond := Cond.methodLink "ChoraleSearchLaw" 13 ⟨"ChoraleSearch", "key", "(II)I"⟩
def gw_342 : Cond := Cond.instanceMethod ⟨"ChoraleSearch", "key", "(II)I"⟩
def gw_343 : Cond := Cond.selects "ChoraleSearch" ⟨"ChoraleSearch", "key", "(II)I"⟩ ⟨"ChoraleSearch", "key", "(II)I"⟩
def gw_344 : Cond := Cond.code ⟨"ChoraleSearch", "key", "(II)I"⟩ prog_1_method_2_code 3 (some .int)
def gw_346 : Cond := Cond.methodLink "ChoraleSearch" 67 ⟨"ChoraleSearch", "forgetFound", "()V"⟩
def gw_348 : Cond := Cond.instanceMethod ⟨"ChoraleSearch", "forgetFound", "()V"⟩
def gw_349 : Cond := Cond.code ⟨"ChoraleSearch", "forgetFound", "()V"⟩ prog_1_method_29_code 1 none
def gw_352 : Cond := Cond.instanceMethod ⟨"ChoraleSearch$RowSearch", "forget", "()V"⟩
def gw_353 : Cond := Cond.code ⟨"ChoraleSearch$RowSearch", "forget", "()V"⟩ prog_7_method_2_code 1 none
def gw_356 : Cond := Cond.instanceMethod ⟨"ChoraleSearch$Table", "spoil", "()V"⟩
def gw_357 : Cond := Cond.code ⟨"ChoraleSearch$Table", "spoil", "()V"⟩ prog_11_method_2_code 1 none
def gw_358 : Cond := Cond.methodLink "ChoraleSearchLaw" 18 ⟨"ChoraleSearch", "places", "(I)I"⟩
def gw_359 : Cond := Cond.instanceMethod ⟨"ChoraleSearch", "places", "(I)I"⟩
def gw_360 : Cond := Cond.selects "ChoraleSearch" ⟨"ChoraleSearch", "places", "(I)I"⟩ ⟨"ChoraleSearch", "places", "(I)I"⟩
def gw_361 : Cond := Cond.code ⟨"ChoraleSearch", "places", "(I)I"⟩ prog_1_method_3_code 3 (some .int)
def gw_363 : Cond := Cond.methodLink "ChoraleSearchLaw" 23 ⟨"ChoraleSearch", "given", "(III)I"⟩
def gw_364 : Cond := Cond.instanceMethod ⟨"ChoraleSearch", "given", "(III)I"⟩
def gw_365 : Cond := Cond.selects "ChoraleSearch" ⟨"ChoraleSearch", "given", "(III)I"⟩ ⟨"ChoraleSearch", "given", "(III)I"⟩
def gw_366 : Cond := Cond.code ⟨"ChoraleSearch", "given", "(III)I"⟩ prog_1_method_4_code 4 (some .int)
def gw_367 : Cond := Cond.methodLink "ChoraleSearch" 78 ⟨"ChoraleSearch", "isVoice", "(I)Z"⟩
def gw_368 : Cond := Cond.static ⟨"ChoraleSearch", "isVoice", "(I)Z"⟩
def gw_369 : Cond := Cond.code ⟨"ChoraleSearch", "isVoice", "(I)Z"⟩ prog_1_method_23_code 1 (some .boolean)
def gw_370 : Cond := Cond.methodLink "ChoraleSearch" 82 ⟨"ChoraleSearch", "isPlace", "(I)Z"⟩
def gw_372 : Cond := Cond.instanceMethod ⟨"ChoraleSearch", "isPlace", "(I)Z"⟩
def gw_373 : Cond := Cond.code ⟨"ChoraleSearch", "isPlace", "(I)Z"⟩ prog_1_method_26_code 2 (some .boolean)
def gw_374 : Cond := Cond.methodLink "ChoraleSearch" 85 ⟨"ChoraleSearch", "isPitch", "(I)Z"⟩
def gw_375 : Cond := Cond.static ⟨"ChoraleSearch", "isPitch", "(I)Z"⟩
def gw_376 : Cond := Cond.code ⟨"ChoraleSearch", "isPitch", "(I)Z"⟩ prog_1_method_25_code 1 (some .boolean)
def gw_377 : Cond := Cond.methodLink "ChoraleSearch" 88 ⟨"ChoraleSearch", "setPitch", "(III)I"⟩
def gw_379 : Cond := Cond.instanceMethod ⟨"ChoraleSearch", "setPitch", "(III)I"⟩
def gw_380 : Cond := Cond.code ⟨"ChoraleSearch", "setPitch", "(III)I"⟩ prog_1_method_28_code 6 (some .int)
def gw_381 : Cond := Cond.methodLink "ChoraleSearchLaw" 28 ⟨"ChoraleSearch", "free", "(II)I"⟩
def gw_382 : Cond := Cond.instanceMethod ⟨"ChoraleSearch", "free", "(II)I"⟩
def gw_383 : Cond := Cond.selects "ChoraleSearch" ⟨"ChoraleSearch", "free", "(II)I"⟩ ⟨"ChoraleSearch", "free", "(II)I"⟩
def gw_384 : Cond := Cond.code ⟨"ChoraleSearch", "free", "(II)I"⟩ prog_1_method_5_code 3 (some .int)
def gw_385 : Cond := Cond.methodLink "ChoraleSearchLaw" 32 ⟨"ChoraleSearch", "figure", "(II)I"⟩
def gw_386 : Cond := Cond.instanceMethod ⟨"ChoraleSearch", "figure", "(II)I"⟩
def gw_387 : Cond := Cond.selects "ChoraleSearch" ⟨"ChoraleSearch", "figure", "(II)I"⟩ ⟨"ChoraleSearch", "figure", "(II)I"⟩
def gw_388 : Cond := Cond.code ⟨"ChoraleSearch", "figure", "(II)I"⟩ prog_1_method_6_code 4 (some .int)
def gw_389 : Cond := Cond.methodLink "ChoraleSearchLaw" 36 ⟨"ChoraleSearch", "inversion", "(II)I"⟩
def gw_390 : Cond := Cond.instanceMethod ⟨"ChoraleSearch", "inversion", "(II)I"⟩
def gw_391 : Cond := Cond.selects "ChoraleSearch" ⟨"ChoraleSearch", "inversion", "(II)I"⟩ ⟨"ChoraleSearch", "inversion", "(II)I"⟩
def gw_392 : Cond := Cond.code ⟨"ChoraleSearch", "inversion", "(II)I"⟩ prog_1_method_7_code 4 (some .int)
def gw_393 : Cond := Cond.methodLink "ChoraleSearchLaw" 40 ⟨"ChoraleSearch", "fermata", "(IZ)I"⟩
def gw_394 : Cond := Cond.instanceMethod ⟨"ChoraleSearch", "fermata", "(IZ)I"⟩
def gw_395 : Cond := Cond.selects "ChoraleSearch" ⟨"ChoraleSearch", "fermata", "(IZ)I"⟩ ⟨"ChoraleSearch", "fermata", "(IZ)I"⟩
def gw_396 : Cond := Cond.code ⟨"ChoraleSearch", "fermata", "(IZ)I"⟩ prog_1_method_8_code 4 (some .int)
def gw_397 : Cond := Cond.methodLink "ChoraleSearchLaw" 45 ⟨"ChoraleSearch", "style", "(IZ)I"⟩
def gw_398 : Cond := Cond.instanceMethod ⟨"ChoraleSearch", "style", "(IZ)I"⟩
def gw_399 : Cond := Cond.selects "ChoraleSearch" ⟨"ChoraleSearch", "style", "(IZ)I"⟩ ⟨"ChoraleSearch", "style", "(IZ)I"⟩
def gw_400 : Cond := Cond.code ⟨"ChoraleSearch", "style", "(IZ)I"⟩ prog_1_method_9_code 5 (some .int)
def gw_401 : Cond := Cond.methodLink "ChoraleSearch" 103 ⟨"ChoraleSearch", "isChord", "(I)Z"⟩
def gw_402 : Cond := Cond.static ⟨"ChoraleSearch", "isChord", "(I)Z"⟩
def gw_403 : Cond := Cond.code ⟨"ChoraleSearch", "isChord", "(I)Z"⟩ prog_1_method_24_code 1 (some .boolean)
def gw_404 : Cond := Cond.methodLink "ChoraleSearchLaw" 49 ⟨"ChoraleSearch", "cost", "(II)I"⟩
def gw_405 : Cond := Cond.instanceMethod ⟨"ChoraleSearch", "cost", "(II)I"⟩
def gw_406 : Cond := Cond.selects "ChoraleSearch" ⟨"ChoraleSearch", "cost", "(II)I"⟩ ⟨"ChoraleSearch", "cost", "(II)I"⟩
def gw_407 : Cond := Cond.code ⟨"ChoraleSearch", "cost", "(II)I"⟩ prog_1_method_10_code 4 (some .int)
def gw_408 : Cond := Cond.methodLink "ChoraleSearchLaw" 53 ⟨"ChoraleSearch", "range", "(III)I"⟩
def gw_409 : Cond := Cond.instanceMethod ⟨"ChoraleSearch", "range", "(III)I"⟩
def gw_410 : Cond := Cond.selects "ChoraleSearch" ⟨"ChoraleSearch", "range", "(III)I"⟩ ⟨"ChoraleSearch", "range", "(III)I"⟩
def gw_411 : Cond := Cond.code ⟨"ChoraleSearch", "range", "(III)I"⟩ prog_1_method_11_code 4 (some .int)
def gw_412 : Cond := Cond.methodLink "ChoraleSearchLaw" 57 ⟨"ChoraleSearch", "solve", "(I)I"⟩
def gw_413 : Cond := Cond.instanceMethod ⟨"ChoraleSearch", "solve", "(I)I"⟩
def gw_414 : Cond := Cond.selects "ChoraleSearch" ⟨"ChoraleSearch", "solve", "(I)I"⟩ ⟨"ChoraleSearch", "solve", "(I)I"⟩
def gw_415 : Cond := Cond.code ⟨"ChoraleSearch", "solve", "(I)I"⟩ prog_1_method_12_code 2 (some .int)
def gw_418 : Cond := Cond.instanceMethod ⟨"ChoraleSearch$Table", "prepare", "()V"⟩
def gw_419 : Cond := Cond.code ⟨"ChoraleSearch$Table", "prepare", "()V"⟩ prog_11_method_3_code 2 none
def gw_422 : Cond := Cond.instanceMethod ⟨"ChoraleSearch$StateRules", "fill", "(LChoraleSearch$Layer;I)V"⟩
def gw_423 : Cond := Cond.code ⟨"ChoraleSearch$StateRules", "fill", "(LChoraleSearch$Layer;I)V"⟩ prog_9_method_2_code 13 none
def gw_424 : Cond := Cond.methodLink "ChoraleSearch$StateRules" 35 ⟨"ChoraleSearch$StateRules", "setLimits", "(I)V"⟩
def gw_426 : Cond := Cond.instanceMethod ⟨"ChoraleSearch$StateRules", "setLimits", "(I)V"⟩
def gw_427 : Cond := Cond.code ⟨"ChoraleSearch$StateRules", "setLimits", "(I)V"⟩ prog_9_method_3_code 3 none
def gw_430 : Cond := Cond.instanceMethod ⟨"ChoraleSearch$Score", "lowAt", "(II)I"⟩
def gw_431 : Cond := Cond.code ⟨"ChoraleSearch$Score", "lowAt", "(II)I"⟩ prog_8_method_4_code 4 (some .int)
def gw_432 : Cond := Cond.methodLink "ChoraleSearch$Score" 45 ⟨"java/lang/Math", "max", "(II)I"⟩
def gw_433 : Cond := Cond.static ⟨"java/lang/Math", "max", "(II)I"⟩
def gw_434 : Cond := Cond.code ⟨"java/lang/Math", "max", "(II)I"⟩ prog_15_method_65_code 2 (some .int)
def gw_437 : Cond := Cond.instanceMethod ⟨"ChoraleSearch$Score", "highAt", "(II)I"⟩
def gw_438 : Cond := Cond.code ⟨"ChoraleSearch$Score", "highAt", "(II)I"⟩ prog_8_method_5_code 4 (some .int)
def gw_439 : Cond := Cond.methodLink "ChoraleSearch$Score" 51 ⟨"java/lang/Math", "min", "(II)I"⟩
def gw_440 : Cond := Cond.static ⟨"java/lang/Math", "min", "(II)I"⟩
def gw_441 : Cond := Cond.code ⟨"java/lang/Math", "min", "(II)I"⟩ prog_15_method_69_code 2 (some .int)
def gw_444 : Cond := Cond.instanceMethod ⟨"ChoraleSearch$Score", "figuredChords", "(I)I"⟩
def gw_445 : Cond := Cond.code ⟨"ChoraleSearch$Score", "figuredChords", "(I)I"⟩ prog_8_method_7_code 3 (some .int)
def gw_446 : Cond := Cond.methodLink "ChoraleSearch$StateRules" 45 ⟨"ChoraleSearch$StateRules", "chordsByRule6", "(I)I"⟩
def gw_448 : Cond := Cond.instanceMethod ⟨"ChoraleSearch$StateRules", "chordsByRule6", "(I)I"⟩
def gw_449 : Cond := Cond.code ⟨"ChoraleSearch$StateRules", "chordsByRule6", "(I)I"⟩ prog_9_method_6_code 2 (some .int)
def gw_452 : Cond := Cond.instanceMethod ⟨"ChoraleSearch$Score", "isLast", "(I)Z"⟩
def gw_453 : Cond := Cond.code ⟨"ChoraleSearch$Score", "isLast", "(I)Z"⟩ prog_8_method_6_code 2 (some .boolean)
def gw_456 : Cond := Cond.instanceMethod ⟨"ChoraleSearch$Harmony", "chordsWith", "(I)I"⟩
def gw_457 : Cond := Cond.code ⟨"ChoraleSearch$Harmony", "chordsWith", "(I)I"⟩ prog_4_method_11_code 2 (some .int)
def gw_458 : Cond := Cond.methodLink "ChoraleSearch$StateRules" 53 ⟨"java/lang/Math", "min", "(II)I"⟩
def gw_459 : Cond := Cond.fieldLink "ChoraleSearch$StateRules" 59 "ChoraleSearch$StateRules" "WIDEST_BELOW" "[I"
def gw_461 : Cond := Cond.methodLink "ChoraleSearch$StateRules" 62 ⟨"java/lang/Math", "max", "(II)I"⟩
def gw_463 : Cond := Cond.static ⟨"ChoraleSearch$Code", "withVoice", "(II)I"⟩
def gw_464 : Cond := Cond.code ⟨"ChoraleSearch$Code", "withVoice", "(II)I"⟩ prog_2_method_2_code 2 (some .int)
def gw_465 : Cond := Cond.methodLink "ChoraleSearch$StateRules" 70 ⟨"ChoraleSearch$StateRules", "fillBass", "(LChoraleSearch$Layer;IIII)V"⟩
def gw_467 : Cond := Cond.instanceMethod ⟨"ChoraleSearch$StateRules", "fillBass", "(LChoraleSearch$Layer;IIII)V"⟩
def gw_468 : Cond := Cond.code ⟨"ChoraleSearch$StateRules", "fillBass", "(LChoraleSearch$Layer;IIII)V"⟩ prog_9_method_4_code 9 none
def gw_469 : Cond := Cond.methodLink "ChoraleSearch$StateRules" 80 ⟨"ChoraleSearch$StateRules", "bassChords", "(II)I"⟩
def gw_471 : Cond := Cond.instanceMethod ⟨"ChoraleSearch$StateRules", "bassChords", "(II)I"⟩
def gw_472 : Cond := Cond.code ⟨"ChoraleSearch$StateRules", "bassChords", "(II)I"⟩ prog_9_method_7_code 5 (some .int)
def gw_475 : Cond := Cond.instanceMethod ⟨"ChoraleSearch$Harmony", "chordsWithMember", "(II)I"⟩
def gw_476 : Cond := Cond.code ⟨"ChoraleSearch$Harmony", "chordsWithMember", "(II)I"⟩ prog_4_method_10_code 3 (some .int)
def gw_477 : Cond := Cond.methodLink "ChoraleSearch$StateRules" 83 ⟨"ChoraleSearch$StateRules", "addComplete", "(LChoraleSearch$Layer;II)V"⟩
def gw_479 : Cond := Cond.instanceMethod ⟨"ChoraleSearch$StateRules", "addComplete", "(LChoraleSearch$Layer;II)V"⟩
def gw_480 : Cond := Cond.code ⟨"ChoraleSearch$StateRules", "addComplete", "(LChoraleSearch$Layer;II)V"⟩ prog_9_method_5_code 6 none
def gw_482 : Cond := Cond.static ⟨"ChoraleSearch$Code", "withChord", "(II)I"⟩
def gw_483 : Cond := Cond.code ⟨"ChoraleSearch$Code", "withChord", "(II)I"⟩ prog_2_method_3_code 2 (some .int)
def gw_484 : Cond := Cond.methodLink "ChoraleSearch$StateRules" 90 ⟨"ChoraleSearch$StateRules", "keepsRules4And5", "(II)Z"⟩
def gw_486 : Cond := Cond.instanceMethod ⟨"ChoraleSearch$StateRules", "keepsRules4And5", "(II)Z"⟩
def gw_487 : Cond := Cond.code ⟨"ChoraleSearch$StateRules", "keepsRules4And5", "(II)Z"⟩ prog_9_method_8_code 4 (some .boolean)
def gw_490 : Cond := Cond.instanceMethod ⟨"ChoraleSearch$Harmony", "memberClass", "(II)I"⟩
def gw_491 : Cond := Cond.code ⟨"ChoraleSearch$Harmony", "memberClass", "(II)I"⟩ prog_4_method_9_code 3 (some .int)
def gw_493 : Cond := Cond.static ⟨"ChoraleSearch$Code", "timesClass", "(II)I"⟩
def gw_494 : Cond := Cond.code ⟨"ChoraleSearch$Code", "timesClass", "(II)I"⟩ prog_2_method_7_code 5 (some .int)
def gw_497 : Cond := Cond.instanceMethod ⟨"ChoraleSearch$Harmony", "guardsLeading", "(I)Z"⟩
def gw_498 : Cond := Cond.code ⟨"ChoraleSearch$Harmony", "guardsLeading", "(I)Z"⟩ prog_4_method_12_code 2 (some .boolean)
def gw_501 : Cond := Cond.instanceMethod ⟨"ChoraleSearch$Layer", "add", "(I)V"⟩
def gw_502 : Cond := Cond.code ⟨"ChoraleSearch$Layer", "add", "(I)V"⟩ prog_5_method_2_code 2 none
def gw_505 : Cond := Cond.instanceMethod ⟨"ChoraleSearch$Table", "overflows", "()Z"⟩
def gw_506 : Cond := Cond.code ⟨"ChoraleSearch$Table", "overflows", "()Z"⟩ prog_11_method_4_code 2 (some .boolean)
def gw_509 : Cond := Cond.instanceMethod ⟨"ChoraleSearch$RowSearch", "run", "(I)V"⟩
def gw_510 : Cond := Cond.code ⟨"ChoraleSearch$RowSearch", "run", "(I)V"⟩ prog_7_method_4_code 4 none
def gw_511 : Cond := Cond.methodLink "ChoraleSearch$RowSearch" 62 ⟨"ChoraleSearch$RowSearch", "forget", "()V"⟩
def gw_512 : Cond := Cond.methodLink "ChoraleSearch$RowSearch" 70 ⟨"ChoraleSearch$RowSearch", "findRests", "(I)V"⟩
def gw_514 : Cond := Cond.instanceMethod ⟨"ChoraleSearch$RowSearch", "findRests", "(I)V"⟩
def gw_515 : Cond := Cond.code ⟨"ChoraleSearch$RowSearch", "findRests", "(I)V"⟩ prog_7_method_5_code 6 none
def gw_516 : Cond := Cond.methodLink "ChoraleSearch$RowSearch" 93 ⟨"java/util/Arrays", "fill", "([II)V"⟩
def gw_519 : Cond := Cond.instanceMethod ⟨"ChoraleSearch$Layer", "kept", "()I"⟩
def gw_520 : Cond := Cond.code ⟨"ChoraleSearch$Layer", "kept", "()I"⟩ prog_5_method_3_code 1 (some .int)
def gw_521 : Cond := Cond.methodLink "ChoraleSearch$Layer" 22 ⟨"java/lang/Math", "min", "(II)I"⟩
def gw_524 : Cond := Cond.instanceMethod ⟨"ChoraleSearch$Costs", "ofState", "(I)I"⟩
def gw_525 : Cond := Cond.code ⟨"ChoraleSearch$Costs", "ofState", "(I)I"⟩ prog_3_method_2_code 4 (some .int)
def gw_526 : Cond := Cond.methodLink "ChoraleSearch$Costs" 25 ⟨"ChoraleSearch$Costs", "inversionUnits", "(I)I"⟩
def gw_528 : Cond := Cond.instanceMethod ⟨"ChoraleSearch$Costs", "inversionUnits", "(I)I"⟩
def gw_529 : Cond := Cond.code ⟨"ChoraleSearch$Costs", "inversionUnits", "(I)I"⟩ prog_3_method_3_code 4 (some .int)
def gw_531 : Cond := Cond.static ⟨"ChoraleSearch$Code", "pitchOf", "(II)I"⟩
def gw_532 : Cond := Cond.code ⟨"ChoraleSearch$Code", "pitchOf", "(II)I"⟩ prog_2_method_5_code 2 (some .int)
def gw_534 : Cond := Cond.static ⟨"ChoraleSearch$Code", "chordOf", "(I)I"⟩
def gw_535 : Cond := Cond.code ⟨"ChoraleSearch$Code", "chordOf", "(I)I"⟩ prog_2_method_4_code 1 (some .int)
def gw_537 : Cond := Cond.fieldLink "ChoraleSearch$Costs" 49 "ChoraleSearch$Costs" "INVERSION_UNITS" "[I"
def gw_539 : Cond := Cond.methodLink "ChoraleSearch$Costs" 29 ⟨"ChoraleSearch$Costs", "unisons", "(I)I"⟩
def gw_540 : Cond := Cond.static ⟨"ChoraleSearch$Costs", "unisons", "(I)I"⟩
def gw_541 : Cond := Cond.code ⟨"ChoraleSearch$Costs", "unisons", "(I)I"⟩ prog_3_method_4_code 3 (some .int)
def gw_544 : Cond := Cond.instanceMethod ⟨"ChoraleSearch$Harmony", "timesMember", "(II)I"⟩
def gw_545 : Cond := Cond.code ⟨"ChoraleSearch$Harmony", "timesMember", "(II)I"⟩ prog_4_method_14_code 4 (some .int)
def gw_547 : Cond := Cond.methodLink "ChoraleSearch$Harmony" 80 ⟨"ChoraleSearch$Harmony", "memberClass", "(II)I"⟩
def gw_550 : Cond := Cond.methodLink "ChoraleSearch$RowSearch" 118 ⟨"ChoraleSearch$RowSearch", "insert", "([I[IIII)Z"⟩
def gw_551 : Cond := Cond.static ⟨"ChoraleSearch$RowSearch", "insert", "([I[IIII)Z"⟩
def gw_552 : Cond := Cond.code ⟨"ChoraleSearch$RowSearch", "insert", "([I[IIII)Z"⟩ prog_7_method_8_code 6 (some .boolean)
def gw_553 : Cond := Cond.methodLink "ChoraleSearch$RowSearch" 122 ⟨"ChoraleSearch$RowSearch", "linkOnward", "(III)V"⟩
def gw_555 : Cond := Cond.instanceMethod ⟨"ChoraleSearch$RowSearch", "linkOnward", "(III)V"⟩
def gw_556 : Cond := Cond.code ⟨"ChoraleSearch$RowSearch", "linkOnward", "(III)V"⟩ prog_7_method_6_code 9 none
def gw_559 : Cond := Cond.instanceMethod ⟨"ChoraleSearch$StepRules", "allow", "(II)Z"⟩
def gw_560 : Cond := Cond.code ⟨"ChoraleSearch$StepRules", "allow", "(II)Z"⟩ prog_10_method_2_code 3 (some .boolean)
def gw_561 : Cond := Cond.methodLink "ChoraleSearch$StepRules" 22 ⟨"ChoraleSearch$StepRules", "lookAt", "(II)V"⟩
def gw_563 : Cond := Cond.instanceMethod ⟨"ChoraleSearch$StepRules", "lookAt", "(II)V"⟩
def gw_564 : Cond := Cond.code ⟨"ChoraleSearch$StepRules", "lookAt", "(II)V"⟩ prog_10_method_4_code 3 none
def gw_567 : Cond := Cond.static ⟨"ChoraleSearch$Code", "unpack", "(I[I)V"⟩
def gw_568 : Cond := Cond.code ⟨"ChoraleSearch$Code", "unpack", "(I[I)V"⟩ prog_2_method_6_code 4 none
def gw_569 : Cond := Cond.methodLink "ChoraleSearch$StepRules" 26 ⟨"ChoraleSearch$StepRules", "breaks7", "()Z"⟩
def gw_571 : Cond := Cond.instanceMethod ⟨"ChoraleSearch$StepRules", "breaks7", "()Z"⟩
def gw_572 : Cond := Cond.code ⟨"ChoraleSearch$StepRules", "breaks7", "()Z"⟩ prog_10_method_5_code 1 (some .boolean)
def gw_575 : Cond := Cond.instanceMethod ⟨"ChoraleSearch$Harmony", "unitsBetween", "(II)I"⟩
def gw_576 : Cond := Cond.code ⟨"ChoraleSearch$Harmony", "unitsBetween", "(II)I"⟩ prog_4_method_8_code 3 (some .int)
def gw_577 : Cond := Cond.methodLink "ChoraleSearch$StepRules" 30 ⟨"ChoraleSearch$StepRules", "breaks10", "()Z"⟩
def gw_579 : Cond := Cond.instanceMethod ⟨"ChoraleSearch$StepRules", "breaks10", "()Z"⟩
def gw_580 : Cond := Cond.code ⟨"ChoraleSearch$StepRules", "breaks10", "()Z"⟩ prog_10_method_8_code 2 (some .boolean)
def gw_581 : Cond := Cond.methodLink "ChoraleSearch$StepRules" 33 ⟨"ChoraleSearch$StepRules", "breaks9", "()Z"⟩
def gw_583 : Cond := Cond.instanceMethod ⟨"ChoraleSearch$StepRules", "breaks9", "()Z"⟩
def gw_584 : Cond := Cond.code ⟨"ChoraleSearch$StepRules", "breaks9", "()Z"⟩ prog_10_method_7_code 3 (some .boolean)
def gw_585 : Cond := Cond.methodLink "ChoraleSearch$StepRules" 68 ⟨"java/lang/Math", "abs", "(I)I"⟩
def gw_586 : Cond := Cond.static ⟨"java/lang/Math", "abs", "(I)I"⟩
def gw_587 : Cond := Cond.code ⟨"java/lang/Math", "abs", "(I)I"⟩ prog_15_method_59_code 1 (some .int)
def gw_588 : Cond := Cond.methodLink "ChoraleSearch$StepRules" 36 ⟨"ChoraleSearch$StepRules", "breaks8", "()Z"⟩
def gw_590 : Cond := Cond.instanceMethod ⟨"ChoraleSearch$StepRules", "breaks8", "()Z"⟩
def gw_591 : Cond := Cond.code ⟨"ChoraleSearch$StepRules", "breaks8", "()Z"⟩ prog_10_method_6_code 4 (some .boolean)
def gw_592 : Cond := Cond.methodLink "ChoraleSearch$StepRules" 39 ⟨"ChoraleSearch$StepRules", "breaks11", "()Z"⟩
def gw_594 : Cond := Cond.instanceMethod ⟨"ChoraleSearch$StepRules", "breaks11", "()Z"⟩
def gw_595 : Cond := Cond.code ⟨"ChoraleSearch$StepRules", "breaks11", "()Z"⟩ prog_10_method_9_code 1 (some .boolean)
def gw_596 : Cond := Cond.methodLink "ChoraleSearch$StepRules" 73 ⟨"ChoraleSearch$StepRules", "leadsAstray", "(I)Z"⟩
def gw_598 : Cond := Cond.instanceMethod ⟨"ChoraleSearch$StepRules", "leadsAstray", "(I)Z"⟩
def gw_599 : Cond := Cond.code ⟨"ChoraleSearch$StepRules", "leadsAstray", "(I)Z"⟩ prog_10_method_10_code 2 (some .boolean)
def gw_600 : Cond := Cond.methodLink "ChoraleSearch$StepRules" 42 ⟨"ChoraleSearch$StepRules", "breaks12", "()Z"⟩
def gw_602 : Cond := Cond.instanceMethod ⟨"ChoraleSearch$StepRules", "breaks12", "()Z"⟩
def gw_603 : Cond := Cond.code ⟨"ChoraleSearch$StepRules", "breaks12", "()Z"⟩ prog_10_method_11_code 4 (some .boolean)
def gw_607 : Cond := Cond.instanceMethod ⟨"ChoraleSearch$Costs", "ofStep", "(II)I"⟩
def gw_608 : Cond := Cond.code ⟨"ChoraleSearch$Costs", "ofStep", "(II)I"⟩ prog_3_method_5_code 7 (some .int)
def gw_610 : Cond := Cond.methodLink "ChoraleSearch$Costs" 55 ⟨"ChoraleSearch$Costs", "move", "(III)I"⟩
def gw_611 : Cond := Cond.static ⟨"ChoraleSearch$Costs", "move", "(III)I"⟩
def gw_612 : Cond := Cond.code ⟨"ChoraleSearch$Costs", "move", "(III)I"⟩ prog_3_method_6_code 3 (some .int)
def gw_613 : Cond := Cond.methodLink "ChoraleSearch$Costs" 59 ⟨"java/lang/Math", "abs", "(I)I"⟩
def gw_614 : Cond := Cond.methodLink "ChoraleSearch$Costs" 64 ⟨"java/lang/Math", "max", "(II)I"⟩
def gw_615 : Cond := Cond.methodLink "ChoraleSearch$Costs" 67 ⟨"ChoraleSearch$Costs", "isHidden", "(III)Z"⟩
def gw_616 : Cond := Cond.static ⟨"ChoraleSearch$Costs", "isHidden", "(III)Z"⟩
def gw_617 : Cond := Cond.code ⟨"ChoraleSearch$Costs", "isHidden", "(III)Z"⟩ prog_3_method_7_code 4 (some .boolean)
def gw_618 : Cond := Cond.methodLink "ChoraleSearch$RowSearch" 139 ⟨"ChoraleSearch$RowSearch", "insertRests", "(IIII)V"⟩
def gw_620 : Cond := Cond.instanceMethod ⟨"ChoraleSearch$RowSearch", "insertRests", "(IIII)V"⟩
def gw_621 : Cond := Cond.code ⟨"ChoraleSearch$RowSearch", "insertRests", "(IIII)V"⟩ prog_7_method_7_code 7 none
def gw_622 : Cond := Cond.methodLink "ChoraleSearch$RowSearch" 74 ⟨"ChoraleSearch$RowSearch", "narrow", "(II)V"⟩
def gw_624 : Cond := Cond.instanceMethod ⟨"ChoraleSearch$RowSearch", "narrow", "(II)V"⟩
def gw_625 : Cond := Cond.code ⟨"ChoraleSearch$RowSearch", "narrow", "(II)V"⟩ prog_7_method_9_code 6 none
def gw_626 : Cond := Cond.methodLink "ChoraleSearch$RowSearch" 143 ⟨"ChoraleSearch$RowSearch", "sortIn", "(II)V"⟩
def gw_628 : Cond := Cond.instanceMethod ⟨"ChoraleSearch$RowSearch", "sortIn", "(II)V"⟩
def gw_629 : Cond := Cond.code ⟨"ChoraleSearch$RowSearch", "sortIn", "(II)V"⟩ prog_7_method_11_code 4 none
def gw_630 : Cond := Cond.methodLink "ChoraleSearch$RowSearch" 146 ⟨"ChoraleSearch$RowSearch", "dropWorst", "([III)V"⟩
def gw_632 : Cond := Cond.instanceMethod ⟨"ChoraleSearch$RowSearch", "dropWorst", "([III)V"⟩
def gw_633 : Cond := Cond.code ⟨"ChoraleSearch$RowSearch", "dropWorst", "([III)V"⟩ prog_7_method_10_code 5 none
def gw_634 : Cond := Cond.methodLink "ChoraleSearch$RowSearch" 78 ⟨"ChoraleSearch$RowSearch", "listAlive", "(I)V"⟩
def gw_636 : Cond := Cond.instanceMethod ⟨"ChoraleSearch$RowSearch", "listAlive", "(I)V"⟩
def gw_637 : Cond := Cond.code ⟨"ChoraleSearch$RowSearch", "listAlive", "(I)V"⟩ prog_7_method_12_code 3 none
def gw_638 : Cond := Cond.methodLink "ChoraleSearch$RowSearch" 81 ⟨"ChoraleSearch$RowSearch", "gatherRows", "()V"⟩
def gw_640 : Cond := Cond.instanceMethod ⟨"ChoraleSearch$RowSearch", "gatherRows", "()V"⟩
def gw_641 : Cond := Cond.code ⟨"ChoraleSearch$RowSearch", "gatherRows", "()V"⟩ prog_7_method_13_code 4 none
def gw_642 : Cond := Cond.methodLink "ChoraleSearch$RowSearch" 84 ⟨"ChoraleSearch$RowSearch", "traceRows", "()V"⟩
def gw_644 : Cond := Cond.instanceMethod ⟨"ChoraleSearch$RowSearch", "traceRows", "()V"⟩
def gw_645 : Cond := Cond.code ⟨"ChoraleSearch$RowSearch", "traceRows", "()V"⟩ prog_7_method_14_code 4 none
def gw_646 : Cond := Cond.methodLink "ChoraleSearchLaw" 61 ⟨"ChoraleSearch", "note", "(III)I"⟩
def gw_647 : Cond := Cond.instanceMethod ⟨"ChoraleSearch", "note", "(III)I"⟩
def gw_648 : Cond := Cond.selects "ChoraleSearch" ⟨"ChoraleSearch", "note", "(III)I"⟩ ⟨"ChoraleSearch", "note", "(III)I"⟩
def gw_649 : Cond := Cond.code ⟨"ChoraleSearch", "note", "(III)I"⟩ prog_1_method_13_code 4 (some .int)
def gw_650 : Cond := Cond.methodLink "ChoraleSearch" 131 ⟨"ChoraleSearch", "isRow", "(I)Z"⟩
def gw_652 : Cond := Cond.instanceMethod ⟨"ChoraleSearch", "isRow", "(I)Z"⟩
def gw_653 : Cond := Cond.code ⟨"ChoraleSearch", "isRow", "(I)Z"⟩ prog_1_method_27_code 2 (some .boolean)
def gw_656 : Cond := Cond.instanceMethod ⟨"ChoraleSearch$RowSearch", "codeAt", "(II)I"⟩
def gw_657 : Cond := Cond.code ⟨"ChoraleSearch$RowSearch", "codeAt", "(II)I"⟩ prog_7_method_3_code 3 (some .int)
def gw_659 : Cond := Cond.methodLink "ChoraleSearchLaw" 65 ⟨"ChoraleSearch", "chord", "(II)I"⟩
def gw_660 : Cond := Cond.instanceMethod ⟨"ChoraleSearch", "chord", "(II)I"⟩
def gw_661 : Cond := Cond.selects "ChoraleSearch" ⟨"ChoraleSearch", "chord", "(II)I"⟩ ⟨"ChoraleSearch", "chord", "(II)I"⟩
def gw_662 : Cond := Cond.code ⟨"ChoraleSearch", "chord", "(II)I"⟩ prog_1_method_14_code 3 (some .int)
def gw_664 : Cond := Cond.methodLink "ChoraleSearchLaw" 69 ⟨"ChoraleSearch", "sum", "(I)I"⟩
def gw_665 : Cond := Cond.instanceMethod ⟨"ChoraleSearch", "sum", "(I)I"⟩
def gw_666 : Cond := Cond.selects "ChoraleSearch" ⟨"ChoraleSearch", "sum", "(I)I"⟩ ⟨"ChoraleSearch", "sum", "(I)I"⟩
def gw_667 : Cond := Cond.code ⟨"ChoraleSearch", "sum", "(I)I"⟩ prog_1_method_15_code 2 (some .int)
def gw_668 : Cond := Cond.methodLink "ChoraleSearchLaw" 73 ⟨"ChoraleSearch", "least", "()I"⟩
def gw_669 : Cond := Cond.instanceMethod ⟨"ChoraleSearch", "least", "()I"⟩
def gw_670 : Cond := Cond.selects "ChoraleSearch" ⟨"ChoraleSearch", "least", "()I"⟩ ⟨"ChoraleSearch", "least", "()I"⟩
def gw_671 : Cond := Cond.code ⟨"ChoraleSearch", "least", "()I"⟩ prog_1_method_16_code 1 (some .int)
def gw_672 : Cond := Cond.methodLink "ChoraleSearchLaw" 78 ⟨"ChoraleSearch", "states", "(I)I"⟩
def gw_673 : Cond := Cond.instanceMethod ⟨"ChoraleSearch", "states", "(I)I"⟩
def gw_674 : Cond := Cond.selects "ChoraleSearch" ⟨"ChoraleSearch", "states", "(I)I"⟩ ⟨"ChoraleSearch", "states", "(I)I"⟩
def gw_675 : Cond := Cond.code ⟨"ChoraleSearch", "states", "(I)I"⟩ prog_1_method_17_code 2 (some .int)
def gw_676 : Cond := Cond.methodLink "ChoraleSearchLaw" 82 ⟨"ChoraleSearch", "blocked", "(I)I"⟩
def gw_677 : Cond := Cond.instanceMethod ⟨"ChoraleSearch", "blocked", "(I)I"⟩
def gw_678 : Cond := Cond.selects "ChoraleSearch" ⟨"ChoraleSearch", "blocked", "(I)I"⟩ ⟨"ChoraleSearch", "blocked", "(I)I"⟩
def gw_679 : Cond := Cond.code ⟨"ChoraleSearch", "blocked", "(I)I"⟩ prog_1_method_18_code 3 (some .int)
def gw_682 : Cond := Cond.instanceMethod ⟨"ChoraleSearch$Reach", "firstUnreached", "()I"⟩
def gw_683 : Cond := Cond.code ⟨"ChoraleSearch$Reach", "firstUnreached", "()I"⟩ prog_6_method_2_code 4 (some .int)
def gw_684 : Cond := Cond.methodLink "ChoraleSearch$Reach" 40 ⟨"ChoraleSearch$Reach", "markReached", "(I)Z"⟩
def gw_686 : Cond := Cond.instanceMethod ⟨"ChoraleSearch$Reach", "markReached", "(I)Z"⟩
def gw_687 : Cond := Cond.code ⟨"ChoraleSearch$Reach", "markReached", "(I)Z"⟩ prog_6_method_3_code 6 (some .boolean)
def gw_689 : Cond := Cond.methodLink "ChoraleSearch$Reach" 58 ⟨"ChoraleSearch$Reach", "isEntered", "(II)Z"⟩
def gw_691 : Cond := Cond.instanceMethod ⟨"ChoraleSearch$Reach", "isEntered", "(II)Z"⟩
def gw_692 : Cond := Cond.code ⟨"ChoraleSearch$Reach", "isEntered", "(II)Z"⟩ prog_6_method_4_code 5 (some .boolean)
def gw_695 : Cond := Cond.instanceMethod ⟨"ChoraleSearch$Layer", "isMarked", "(II)Z"⟩
def gw_696 : Cond := Cond.code ⟨"ChoraleSearch$Layer", "isMarked", "(II)Z"⟩ prog_5_method_4_code 3 (some .boolean)
def gw_700 : Cond := Cond.instanceMethod ⟨"ChoraleSearch$Reach", "barringRules", "(I)I"⟩
def gw_701 : Cond := Cond.code ⟨"ChoraleSearch$Reach", "barringRules", "(I)I"⟩ prog_6_method_7_code 6 (some .int)
def gw_704 : Cond := Cond.instanceMethod ⟨"ChoraleSearch$StateRules", "barring", "(I)I"⟩
def gw_705 : Cond := Cond.code ⟨"ChoraleSearch$StateRules", "barring", "(I)I"⟩ prog_9_method_9_code 5 (some .int)
def gw_706 : Cond := Cond.methodLink "ChoraleSearch$StateRules" 123 ⟨"ChoraleSearch$StateRules", "surveyVoices", "(II)Z"⟩
def gw_708 : Cond := Cond.instanceMethod ⟨"ChoraleSearch$StateRules", "surveyVoices", "(II)Z"⟩
def gw_709 : Cond := Cond.code ⟨"ChoraleSearch$StateRules", "surveyVoices", "(II)Z"⟩ prog_9_method_10_code 4 (some .boolean)
def gw_710 : Cond := Cond.methodLink "ChoraleSearch$StateRules" 139 ⟨"ChoraleSearch$StateRules", "surveyVoice", "(III)V"⟩
def gw_712 : Cond := Cond.instanceMethod ⟨"ChoraleSearch$StateRules", "surveyVoice", "(III)V"⟩
def gw_713 : Cond := Cond.code ⟨"ChoraleSearch$StateRules", "surveyVoice", "(III)V"⟩ prog_9_method_11_code 7 none
def gw_714 : Cond := Cond.methodLink "ChoraleSearch$StateRules" 143 ⟨"ChoraleSearch$StateRules", "memberAt", "(II)I"⟩
def gw_716 : Cond := Cond.instanceMethod ⟨"ChoraleSearch$StateRules", "memberAt", "(II)I"⟩
def gw_717 : Cond := Cond.code ⟨"ChoraleSearch$StateRules", "memberAt", "(II)I"⟩ prog_9_method_12_code 4 (some .int)
def gw_718 : Cond := Cond.methodLink "ChoraleSearch$StateRules" 146 ⟨"ChoraleSearch$StateRules", "maySound", "(III)Z"⟩
def gw_720 : Cond := Cond.instanceMethod ⟨"ChoraleSearch$StateRules", "maySound", "(III)Z"⟩
def gw_721 : Cond := Cond.code ⟨"ChoraleSearch$StateRules", "maySound", "(III)Z"⟩ prog_9_method_13_code 4 (some .boolean)
def gw_722 : Cond := Cond.methodLink "ChoraleSearch$StateRules" 126 ⟨"ChoraleSearch$StateRules", "someBreak3", "()Z"⟩
def gw_724 : Cond := Cond.instanceMethod ⟨"ChoraleSearch$StateRules", "someBreak3", "()Z"⟩
def gw_725 : Cond := Cond.code ⟨"ChoraleSearch$StateRules", "someBreak3", "()Z"⟩ prog_9_method_14_code 2 (some .boolean)
def gw_726 : Cond := Cond.methodLink "ChoraleSearch$StateRules" 130 ⟨"ChoraleSearch$StateRules", "someBreak4", "(I)Z"⟩
def gw_728 : Cond := Cond.instanceMethod ⟨"ChoraleSearch$StateRules", "someBreak4", "(I)Z"⟩
def gw_729 : Cond := Cond.code ⟨"ChoraleSearch$StateRules", "someBreak4", "(I)Z"⟩ prog_9_method_15_code 2 (some .boolean)
def gw_730 : Cond := Cond.methodLink "ChoraleSearch$StateRules" 150 ⟨"ChoraleSearch$StateRules", "canMiss", "(I)Z"⟩
def gw_732 : Cond := Cond.instanceMethod ⟨"ChoraleSearch$StateRules", "canMiss", "(I)Z"⟩
def gw_733 : Cond := Cond.code ⟨"ChoraleSearch$StateRules", "canMiss", "(I)Z"⟩ prog_9_method_16_code 3 (some .boolean)
def gw_734 : Cond := Cond.methodLink "ChoraleSearch$StateRules" 133 ⟨"ChoraleSearch$StateRules", "someBreak5", "(I)Z"⟩
def gw_736 : Cond := Cond.instanceMethod ⟨"ChoraleSearch$StateRules", "someBreak5", "(I)Z"⟩
def gw_737 : Cond := Cond.code ⟨"ChoraleSearch$StateRules", "someBreak5", "(I)Z"⟩ prog_9_method_17_code 3 (some .boolean)
def gw_738 : Cond := Cond.methodLink "ChoraleSearch$StateRules" 153 ⟨"ChoraleSearch$StateRules", "canDouble", "(I)Z"⟩
def gw_740 : Cond := Cond.instanceMethod ⟨"ChoraleSearch$StateRules", "canDouble", "(I)Z"⟩
def gw_741 : Cond := Cond.code ⟨"ChoraleSearch$StateRules", "canDouble", "(I)Z"⟩ prog_9_method_18_code 4 (some .boolean)
def gw_742 : Cond := Cond.methodLink "ChoraleSearch$StateRules" 136 ⟨"ChoraleSearch$StateRules", "someBreak6", "(II)Z"⟩
def gw_744 : Cond := Cond.instanceMethod ⟨"ChoraleSearch$StateRules", "someBreak6", "(II)Z"⟩
def gw_745 : Cond := Cond.code ⟨"ChoraleSearch$StateRules", "someBreak6", "(II)Z"⟩ prog_9_method_19_code 3 (some .boolean)
def gw_746 : Cond := Cond.methodLink "ChoraleSearch$Reach" 88 ⟨"ChoraleSearch$Reach", "barringSteps", "(ILChoraleSearch$Layer;)I"⟩
def gw_748 : Cond := Cond.instanceMethod ⟨"ChoraleSearch$Reach", "barringSteps", "(ILChoraleSearch$Layer;)I"⟩
def gw_749 : Cond := Cond.code ⟨"ChoraleSearch$Reach", "barringSteps", "(ILChoraleSearch$Layer;)I"⟩ prog_6_method_8_code 5 (some .int)
def gw_752 : Cond := Cond.instanceMethod ⟨"ChoraleSearch$StepRules", "barring", "(II)I"⟩
def gw_753 : Cond := Cond.code ⟨"ChoraleSearch$StepRules", "barring", "(II)I"⟩ prog_10_method_3_code 3 (some .int)
def gw_754 : Cond := Cond.methodLink "ChoraleSearchLaw" 86 ⟨"ChoraleSearch", "repair", "()I"⟩
def gw_755 : Cond := Cond.instanceMethod ⟨"ChoraleSearch", "repair", "()I"⟩
def gw_756 : Cond := Cond.selects "ChoraleSearch" ⟨"ChoraleSearch", "repair", "()I"⟩ ⟨"ChoraleSearch", "repair", "()I"⟩
def gw_757 : Cond := Cond.code ⟨"ChoraleSearch", "repair", "()I"⟩ prog_1_method_19_code 1 (some .int)
def gw_760 : Cond := Cond.instanceMethod ⟨"ChoraleSearch$Reach", "noteToGiveWay", "()I"⟩
def gw_761 : Cond := Cond.code ⟨"ChoraleSearch$Reach", "noteToGiveWay", "()I"⟩ prog_6_method_9_code 4 (some .int)
def gw_762 : Cond := Cond.methodLink "ChoraleSearch$Reach" 95 ⟨"ChoraleSearch$Reach", "markGoingOn", "()V"⟩
def gw_764 : Cond := Cond.instanceMethod ⟨"ChoraleSearch$Reach", "markGoingOn", "()V"⟩
def gw_765 : Cond := Cond.code ⟨"ChoraleSearch$Reach", "markGoingOn", "()V"⟩ prog_6_method_5_code 4 none
def gw_766 : Cond := Cond.methodLink "ChoraleSearch$Reach" 73 ⟨"ChoraleSearch$Reach", "goesOn", "(II)Z"⟩
def gw_768 : Cond := Cond.instanceMethod ⟨"ChoraleSearch$Reach", "goesOn", "(II)Z"⟩
def gw_769 : Cond := Cond.code ⟨"ChoraleSearch$Reach", "goesOn", "(II)Z"⟩ prog_6_method_6_code 5 (some .boolean)
def gw_772 : Cond := Cond.methodLink "ChoraleSearch$Reach" 105 ⟨"ChoraleSearch$Reach", "trialJoins", "(I)Z"⟩
def gw_774 : Cond := Cond.instanceMethod ⟨"ChoraleSearch$Reach", "trialJoins", "(I)Z"⟩
def gw_775 : Cond := Cond.code ⟨"ChoraleSearch$Reach", "trialJoins", "(I)Z"⟩ prog_6_method_10_code 3 (some .boolean)
def gw_776 : Cond := Cond.methodLink "ChoraleSearchLaw" 90 ⟨"ChoraleSearch", "passing", "(II)I"⟩
def gw_777 : Cond := Cond.instanceMethod ⟨"ChoraleSearch", "passing", "(II)I"⟩
def gw_778 : Cond := Cond.selects "ChoraleSearch" ⟨"ChoraleSearch", "passing", "(II)I"⟩ ⟨"ChoraleSearch", "passing", "(II)I"⟩
def gw_779 : Cond := Cond.code ⟨"ChoraleSearch", "passing", "(II)I"⟩ prog_1_method_20_code 7 (some .int)
def gw_780 : Cond := Cond.methodLink "ChoraleSearch" 173 ⟨"java/lang/Math", "abs", "(I)I"⟩
def gw_781 : Cond := Cond.methodLink "ChoraleSearch" 178 ⟨"java/lang/Math", "min", "(II)I"⟩
def gw_784 : Cond := Cond.instanceMethod ⟨"ChoraleSearch$Harmony", "inScale", "(I)Z"⟩
def gw_785 : Cond := Cond.code ⟨"ChoraleSearch$Harmony", "inScale", "(I)Z"⟩ prog_4_method_13_code 4 (some .boolean)
def gw_786 : Cond := Cond.methodLink "ChoraleSearch$Harmony" 69 ⟨"java/lang/Math", "floorMod", "(II)I"⟩
def gw_787 : Cond := Cond.static ⟨"java/lang/Math", "floorMod", "(II)I"⟩
def gw_788 : Cond := Cond.code ⟨"java/lang/Math", "floorMod", "(II)I"⟩ prog_15_method_50_code 3 (some .int)
def gw_789 : Cond := Cond.methodLink "ChoraleSearchLaw" 94 ⟨"ChoraleSearch", "count", "(I)I"⟩
def gw_790 : Cond := Cond.instanceMethod ⟨"ChoraleSearch", "count", "(I)I"⟩
def gw_791 : Cond := Cond.selects "ChoraleSearch" ⟨"ChoraleSearch", "count", "(I)I"⟩ ⟨"ChoraleSearch", "count", "(I)I"⟩
def gw_792 : Cond := Cond.code ⟨"ChoraleSearch", "count", "(I)I"⟩ prog_1_method_21_code 2 (some .int)
def gw_795 : Cond := Cond.instanceMethod ⟨"ChoraleSearch$Score", "givenNotes", "()I"⟩
def gw_796 : Cond := Cond.code ⟨"ChoraleSearch$Score", "givenNotes", "()I"⟩ prog_8_method_3_code 6 (some .int)
def gw_797 : Cond := Cond.methodLink "ChoraleSearch" 193 ⟨"java/lang/Integer", "bitCount", "(I)I"⟩
def gw_798 : Cond := Cond.static ⟨"java/lang/Integer", "bitCount", "(I)I"⟩
def gw_799 : Cond := Cond.code ⟨"java/lang/Integer", "bitCount", "(I)I"⟩ prog_14_method_49_code 1 (some .int)
def gw_800 : Cond := Cond.constant "java/lang/Integer" 265 (1431655765 : Int32)
def gw_801 : Cond := Cond.constant "java/lang/Integer" 266 (858993459 : Int32)
def gw_802 : Cond := Cond.constant "java/lang/Integer" 267 (252645135 : Int32)
def gw_803 : Cond := Cond.methodLink "ChoraleSearchLaw" 98 ⟨"ChoraleSearch", "member", "(II)I"⟩
def gw_804 : Cond := Cond.instanceMethod ⟨"ChoraleSearch", "member", "(II)I"⟩
def gw_805 : Cond := Cond.selects "ChoraleSearch" ⟨"ChoraleSearch", "member", "(II)I"⟩ ⟨"ChoraleSearch", "member", "(II)I"⟩
def gw_806 : Cond := Cond.code ⟨"ChoraleSearch", "member", "(II)I"⟩ prog_1_method_22_code 3 (some .int)
def gw_808 : Cond := Cond.classLink "ChoraleSearchLaw" 10 "ChoraleSearchModel"
def gw_809 : Cond := Cond.instantiable "ChoraleSearchModel" 36
def gw_810 : Cond := Cond.methodLink "ChoraleSearchLaw" 12 ⟨"ChoraleSearchModel", "<init>", "()V"⟩
def gw_811 : Cond := Cond.instanceMethod ⟨"ChoraleSearchModel", "<init>", "()V"⟩
def gw_812 : Cond := Cond.code ⟨"ChoraleSearchModel", "<init>", "()V"⟩ prog_13_method_3_code 2 none
def gw_813 : Cond := Cond.methodLink "ChoraleSearchModel" 7 ⟨"java/lang/Object", "<init>", "()V"⟩
def gw_814 : Cond := Cond.fieldLink "ChoraleSearchModel" 1 "ChoraleSearchModel" "thrown" "I"
def gw_815 : Cond := Cond.fieldLink "ChoraleSearchModel" 13 "ChoraleSearchModel" "major" "[I"
def gw_816 : Cond := Cond.fieldLink "ChoraleSearchModel" 17 "ChoraleSearchModel" "minorOnes" "[I"
def gw_817 : Cond := Cond.fieldLink "ChoraleSearchModel" 20 "ChoraleSearchModel" "scaleMajor" "[I"
def gw_818 : Cond := Cond.fieldLink "ChoraleSearchModel" 23 "ChoraleSearchModel" "scaleMinor" "[I"
def gw_819 : Cond := Cond.fieldLink "ChoraleSearchModel" 106 "ChoraleSearchModel" "tonic" "I"
def gw_820 : Cond := Cond.fieldLink "ChoraleSearchModel" 102 "ChoraleSearchModel" "isMinor" "Z"
def gw_821 : Cond := Cond.fieldLink "ChoraleSearchModel" 26 "ChoraleSearchModel" "places" "I"
def gw_822 : Cond := Cond.fieldLink "ChoraleSearchModel" 29 "ChoraleSearchModel" "given" "[I"
def gw_823 : Cond := Cond.fieldLink "ChoraleSearchModel" 32 "ChoraleSearchModel" "figure" "[I"
def gw_824 : Cond := Cond.fieldLink "ChoraleSearchModel" 35 "ChoraleSearchModel" "inversion" "[I"
def gw_825 : Cond := Cond.fieldLink "ChoraleSearchModel" 38 "ChoraleSearchModel" "fermata" "[Z"
def gw_826 : Cond := Cond.fieldLink "ChoraleSearchModel" 42 "ChoraleSearchModel" "style" "[Z"
def gw_827 : Cond := Cond.fieldLink "ChoraleSearchModel" 45 "ChoraleSearchModel" "cost" "[I"
def gw_828 : Cond := Cond.fieldLink "ChoraleSearchModel" 48 "ChoraleSearchModel" "low" "[I"
def gw_829 : Cond := Cond.fieldLink "ChoraleSearchModel" 51 "ChoraleSearchModel" "high" "[I"
def gw_830 : Cond := Cond.fieldLink "ChoraleSearchModel" 54 "ChoraleSearchModel" "pitch" "[I"
def gw_831 : Cond := Cond.fieldLink "ChoraleSearchModel" 57 "ChoraleSearchModel" "chordOf" "[I"
def gw_832 : Cond := Cond.fieldLink "ChoraleSearchModel" 60 "ChoraleSearchModel" "stateCost" "[I"
def gw_833 : Cond := Cond.fieldLink "ChoraleSearchModel" 63 "ChoraleSearchModel" "many" "[I"
def gw_834 : Cond := Cond.fieldLink "ChoraleSearchModel" 66 "ChoraleSearchModel" "waySum" "[I"
def gw_835 : Cond := Cond.fieldLink "ChoraleSearchModel" 69 "ChoraleSearchModel" "wayState" "[I"
def gw_836 : Cond := Cond.fieldLink "ChoraleSearchModel" 72 "ChoraleSearchModel" "wayRank" "[I"
def gw_837 : Cond := Cond.fieldLink "ChoraleSearchModel" 75 "ChoraleSearchModel" "ways" "[I"
def gw_838 : Cond := Cond.fieldLink "ChoraleSearchModel" 78 "ChoraleSearchModel" "isKept" "[Z"
def gw_839 : Cond := Cond.fieldLink "ChoraleSearchModel" 81 "ChoraleSearchModel" "isCome" "[Z"
def gw_840 : Cond := Cond.fieldLink "ChoraleSearchModel" 123 "ChoraleSearchModel" "rows" "I"
def gw_841 : Cond := Cond.fieldLink "ChoraleSearchModel" 84 "ChoraleSearchModel" "rowPitch" "[I"
def gw_842 : Cond := Cond.fieldLink "ChoraleSearchModel" 87 "ChoraleSearchModel" "rowChord" "[I"
def gw_843 : Cond := Cond.fieldLink "ChoraleSearchModel" 90 "ChoraleSearchModel" "rowSum" "[I"
def gw_844 : Cond := Cond.fieldLink "ChoraleSearchModel" 217 "ChoraleSearchModel" "isSure" "Z"
def gw_845 : Cond := Cond.fieldLink "ChoraleSearchModel" 93 "ChoraleSearchModel" "now" "[I"
def gw_846 : Cond := Cond.fieldLink "ChoraleSearchModel" 149 "ChoraleSearchModel" "barred" "I"
def gw_847 : Cond := Cond.fieldLink "ChoraleSearchModel" 96 "ChoraleSearchModel" "topState" "[I"
def gw_848 : Cond := Cond.fieldLink "ChoraleSearchModel" 99 "ChoraleSearchModel" "topRank" "[I"
def gw_849 : Cond := Cond.fieldLink "ChoraleSearchModel" 226 "ChoraleSearchModel" "stepBars" "I"
def gw_850 : Cond := Cond.lays "ChoraleSearchModel" "ChoraleSearchModel" "thrown" "I"
def gw_852 : Cond := Cond.laysFinal "ChoraleSearchModel" "ChoraleSearchModel" "major" "[I"
def gw_854 : Cond := Cond.laysFinal "ChoraleSearchModel" "ChoraleSearchModel" "minorOnes" "[I"
def gw_856 : Cond := Cond.laysFinal "ChoraleSearchModel" "ChoraleSearchModel" "scaleMajor" "[I"
def gw_858 : Cond := Cond.laysFinal "ChoraleSearchModel" "ChoraleSearchModel" "scaleMinor" "[I"
def gw_860 : Cond := Cond.lays "ChoraleSearchModel" "ChoraleSearchModel" "tonic" "I"
def gw_862 : Cond := Cond.lays "ChoraleSearchModel" "ChoraleSearchModel" "isMinor" "Z"
def gw_864 : Cond := Cond.lays "ChoraleSearchModel" "ChoraleSearchModel" "places" "I"
def gw_866 : Cond := Cond.laysFinal "ChoraleSearchModel" "ChoraleSearchModel" "given" "[I"
def gw_868 : Cond := Cond.laysFinal "ChoraleSearchModel" "ChoraleSearchModel" "figure" "[I"
def gw_870 : Cond := Cond.laysFinal "ChoraleSearchModel" "ChoraleSearchModel" "inversion" "[I"
def gw_872 : Cond := Cond.laysFinal "ChoraleSearchModel" "ChoraleSearchModel" "fermata" "[Z"
def gw_874 : Cond := Cond.laysFinal "ChoraleSearchModel" "ChoraleSearchModel" "style" "[Z"
def gw_876 : Cond := Cond.laysFinal "ChoraleSearchModel" "ChoraleSearchModel" "cost" "[I"
def gw_878 : Cond := Cond.laysFinal "ChoraleSearchModel" "ChoraleSearchModel" "low" "[I"
def gw_880 : Cond := Cond.laysFinal "ChoraleSearchModel" "ChoraleSearchModel" "high" "[I"
def gw_882 : Cond := Cond.laysFinal "ChoraleSearchModel" "ChoraleSearchModel" "pitch" "[I"
def gw_884 : Cond := Cond.laysFinal "ChoraleSearchModel" "ChoraleSearchModel" "chordOf" "[I"
def gw_886 : Cond := Cond.laysFinal "ChoraleSearchModel" "ChoraleSearchModel" "stateCost" "[I"
def gw_888 : Cond := Cond.laysFinal "ChoraleSearchModel" "ChoraleSearchModel" "many" "[I"
def gw_890 : Cond := Cond.laysFinal "ChoraleSearchModel" "ChoraleSearchModel" "waySum" "[I"
def gw_892 : Cond := Cond.laysFinal "ChoraleSearchModel" "ChoraleSearchModel" "wayState" "[I"
def gw_894 : Cond := Cond.laysFinal "ChoraleSearchModel" "ChoraleSearchModel" "wayRank" "[I"
def gw_896 : Cond := Cond.laysFinal "ChoraleSearchModel" "ChoraleSearchModel" "ways" "[I"
def gw_898 : Cond := Cond.laysFinal "ChoraleSearchModel" "ChoraleSearchModel" "isKept" "[Z"
def gw_900 : Cond := Cond.laysFinal "ChoraleSearchModel" "ChoraleSearchModel" "isCome" "[Z"
def gw_902 : Cond := Cond.lays "ChoraleSearchModel" "ChoraleSearchModel" "rows" "I"
def gw_904 : Cond := Cond.laysFinal "ChoraleSearchModel" "ChoraleSearchModel" "rowPitch" "[I"
def gw_906 : Cond := Cond.laysFinal "ChoraleSearchModel" "ChoraleSearchModel" "rowChord" "[I"
def gw_908 : Cond := Cond.laysFinal "ChoraleSearchModel" "ChoraleSearchModel" "rowSum" "[I"
def gw_910 : Cond := Cond.lays "ChoraleSearchModel" "ChoraleSearchModel" "isSure" "Z"
def gw_912 : Cond := Cond.laysFinal "ChoraleSearchModel" "ChoraleSearchModel" "now" "[I"
def gw_914 : Cond := Cond.lays "ChoraleSearchModel" "ChoraleSearchModel" "barred" "I"
def gw_916 : Cond := Cond.laysFinal "ChoraleSearchModel" "ChoraleSearchModel" "topState" "[I"
def gw_918 : Cond := Cond.laysFinal "ChoraleSearchModel" "ChoraleSearchModel" "topRank" "[I"
def gw_920 : Cond := Cond.lays "ChoraleSearchModel" "ChoraleSearchModel" "stepBars" "I"
def gw_923 : Cond := Cond.methodLink "ChoraleSearchLaw" 17 ⟨"ChoraleSearchModel", "key", "(II)I"⟩
def gw_924 : Cond := Cond.instanceMethod ⟨"ChoraleSearchModel", "key", "(II)I"⟩
def gw_925 : Cond := Cond.selects "ChoraleSearchModel" ⟨"ChoraleSearchModel", "key", "(II)I"⟩ ⟨"ChoraleSearchModel", "key", "(II)I"⟩
def gw_926 : Cond := Cond.code ⟨"ChoraleSearchModel", "key", "(II)I"⟩ prog_13_method_7_code 3 (some .int)
def gw_927 : Cond := Cond.constantLong "ChoraleSearchModel" 117 (11 : Int64)
def gw_928 : Cond := Cond.methodLink "ChoraleSearchModel" 119 ⟨"ChoraleSearchModel", "in", "(JJJ)Z"⟩
def gw_929 : Cond := Cond.static ⟨"ChoraleSearchModel", "in", "(JJJ)Z"⟩
def gw_930 : Cond := Cond.code ⟨"ChoraleSearchModel", "in", "(JJJ)Z"⟩ prog_13_method_2_code 6 (some .boolean)
def gw_931 : Cond := Cond.methodLink "ChoraleSearchLaw" 22 ⟨"ChoraleSearchModel", "places", "(I)I"⟩
def gw_932 : Cond := Cond.instanceMethod ⟨"ChoraleSearchModel", "places", "(I)I"⟩
def gw_933 : Cond := Cond.selects "ChoraleSearchModel" ⟨"ChoraleSearchModel", "places", "(I)I"⟩ ⟨"ChoraleSearchModel", "places", "(I)I"⟩
def gw_934 : Cond := Cond.code ⟨"ChoraleSearchModel", "places", "(I)I"⟩ prog_13_method_8_code 5 (some .int)
def gw_935 : Cond := Cond.constantLong "ChoraleSearchModel" 126 (16 : Int64)
def gw_936 : Cond := Cond.methodLink "ChoraleSearchLaw" 27 ⟨"ChoraleSearchModel", "given", "(III)I"⟩
def gw_937 : Cond := Cond.instanceMethod ⟨"ChoraleSearchModel", "given", "(III)I"⟩
def gw_938 : Cond := Cond.selects "ChoraleSearchModel" ⟨"ChoraleSearchModel", "given", "(III)I"⟩ ⟨"ChoraleSearchModel", "given", "(III)I"⟩
def gw_939 : Cond := Cond.code ⟨"ChoraleSearchModel", "given", "(III)I"⟩ prog_13_method_10_code 5 (some .int)
def gw_940 : Cond := Cond.constantLong "ChoraleSearchModel" 128 (3 : Int64)
def gw_941 : Cond := Cond.methodLink "ChoraleSearchModel" 130 ⟨"ChoraleSearchModel", "noPlace", "(I)Z"⟩
def gw_943 : Cond := Cond.instanceMethod ⟨"ChoraleSearchModel", "noPlace", "(I)Z"⟩
def gw_944 : Cond := Cond.code ⟨"ChoraleSearchModel", "noPlace", "(I)Z"⟩ prog_13_method_9_code 2 (some .boolean)
def gw_945 : Cond := Cond.constantLong "ChoraleSearchModel" 134 (36 : Int64)
def gw_946 : Cond := Cond.constantLong "ChoraleSearchModel" 136 (84 : Int64)
def gw_947 : Cond := Cond.methodLink "ChoraleSearchLaw" 31 ⟨"ChoraleSearchModel", "free", "(II)I"⟩
def gw_948 : Cond := Cond.instanceMethod ⟨"ChoraleSearchModel", "free", "(II)I"⟩
def gw_949 : Cond := Cond.selects "ChoraleSearchModel" ⟨"ChoraleSearchModel", "free", "(II)I"⟩ ⟨"ChoraleSearchModel", "free", "(II)I"⟩
def gw_950 : Cond := Cond.code ⟨"ChoraleSearchModel", "free", "(II)I"⟩ prog_13_method_11_code 4 (some .int)
def gw_951 : Cond := Cond.methodLink "ChoraleSearchLaw" 35 ⟨"ChoraleSearchModel", "figure", "(II)I"⟩
def gw_952 : Cond := Cond.instanceMethod ⟨"ChoraleSearchModel", "figure", "(II)I"⟩
def gw_953 : Cond := Cond.selects "ChoraleSearchModel" ⟨"ChoraleSearchModel", "figure", "(II)I"⟩ ⟨"ChoraleSearchModel", "figure", "(II)I"⟩
def gw_954 : Cond := Cond.code ⟨"ChoraleSearchModel", "figure", "(II)I"⟩ prog_13_method_12_code 4 (some .int)
def gw_955 : Cond := Cond.constantLong "ChoraleSearchModel" 138 (-1 : Int64)
def gw_956 : Cond := Cond.constantLong "ChoraleSearchModel" 140 (12 : Int64)
def gw_957 : Cond := Cond.methodLink "ChoraleSearchLaw" 39 ⟨"ChoraleSearchModel", "inversion", "(II)I"⟩
def gw_958 : Cond := Cond.instanceMethod ⟨"ChoraleSearchModel", "inversion", "(II)I"⟩
def gw_959 : Cond := Cond.selects "ChoraleSearchModel" ⟨"ChoraleSearchModel", "inversion", "(II)I"⟩ ⟨"ChoraleSearchModel", "inversion", "(II)I"⟩
def gw_960 : Cond := Cond.code ⟨"ChoraleSearchModel", "inversion", "(II)I"⟩ prog_13_method_13_code 4 (some .int)
def gw_961 : Cond := Cond.methodLink "ChoraleSearchLaw" 44 ⟨"ChoraleSearchModel", "fermata", "(IZ)I"⟩
def gw_962 : Cond := Cond.instanceMethod ⟨"ChoraleSearchModel", "fermata", "(IZ)I"⟩
def gw_963 : Cond := Cond.selects "ChoraleSearchModel" ⟨"ChoraleSearchModel", "fermata", "(IZ)I"⟩ ⟨"ChoraleSearchModel", "fermata", "(IZ)I"⟩
def gw_964 : Cond := Cond.code ⟨"ChoraleSearchModel", "fermata", "(IZ)I"⟩ prog_13_method_14_code 4 (some .int)
def gw_965 : Cond := Cond.methodLink "ChoraleSearchLaw" 48 ⟨"ChoraleSearchModel", "style", "(IZ)I"⟩
def gw_966 : Cond := Cond.instanceMethod ⟨"ChoraleSearchModel", "style", "(IZ)I"⟩
def gw_967 : Cond := Cond.selects "ChoraleSearchModel" ⟨"ChoraleSearchModel", "style", "(IZ)I"⟩ ⟨"ChoraleSearchModel", "style", "(IZ)I"⟩
def gw_968 : Cond := Cond.code ⟨"ChoraleSearchModel", "style", "(IZ)I"⟩ prog_13_method_15_code 4 (some .int)
def gw_969 : Cond := Cond.methodLink "ChoraleSearchLaw" 52 ⟨"ChoraleSearchModel", "cost", "(II)I"⟩
def gw_970 : Cond := Cond.instanceMethod ⟨"ChoraleSearchModel", "cost", "(II)I"⟩
def gw_971 : Cond := Cond.selects "ChoraleSearchModel" ⟨"ChoraleSearchModel", "cost", "(II)I"⟩ ⟨"ChoraleSearchModel", "cost", "(II)I"⟩
def gw_972 : Cond := Cond.code ⟨"ChoraleSearchModel", "cost", "(II)I"⟩ prog_13_method_16_code 4 (some .int)
def gw_973 : Cond := Cond.constantLong "ChoraleSearchModel" 142 (8 : Int64)
def gw_974 : Cond := Cond.constantLong "ChoraleSearchModel" 144 (1000 : Int64)
def gw_975 : Cond := Cond.methodLink "ChoraleSearchLaw" 56 ⟨"ChoraleSearchModel", "range", "(III)I"⟩
def gw_976 : Cond := Cond.instanceMethod ⟨"ChoraleSearchModel", "range", "(III)I"⟩
def gw_977 : Cond := Cond.selects "ChoraleSearchModel" ⟨"ChoraleSearchModel", "range", "(III)I"⟩ ⟨"ChoraleSearchModel", "range", "(III)I"⟩
def gw_978 : Cond := Cond.code ⟨"ChoraleSearchModel", "range", "(III)I"⟩ prog_13_method_17_code 4 (some .int)
def gw_979 : Cond := Cond.methodLink "ChoraleSearchLaw" 81 ⟨"ChoraleSearchModel", "states", "(I)I"⟩
def gw_980 : Cond := Cond.instanceMethod ⟨"ChoraleSearchModel", "states", "(I)I"⟩
def gw_981 : Cond := Cond.selects "ChoraleSearchModel" ⟨"ChoraleSearchModel", "states", "(I)I"⟩ ⟨"ChoraleSearchModel", "states", "(I)I"⟩
def gw_982 : Cond := Cond.code ⟨"ChoraleSearchModel", "states", "(I)I"⟩ prog_13_method_27_code 2 (some .int)
def gw_983 : Cond := Cond.methodLink "ChoraleSearchModel" 175 ⟨"ChoraleSearchModel", "findStates", "(IZZ)I"⟩
def gw_985 : Cond := Cond.instanceMethod ⟨"ChoraleSearchModel", "findStates", "(IZZ)I"⟩
def gw_986 : Cond := Cond.code ⟨"ChoraleSearchModel", "findStates", "(IZZ)I"⟩ prog_13_method_23_code 11 (some .int)
def gw_987 : Cond := Cond.methodLink "ChoraleSearchModel" 152 ⟨"ChoraleSearchModel", "most", "(II)I"⟩
def gw_988 : Cond := Cond.static ⟨"ChoraleSearchModel", "most", "(II)I"⟩
def gw_989 : Cond := Cond.code ⟨"ChoraleSearchModel", "most", "(II)I"⟩ prog_13_method_20_code 2 (some .int)
def gw_990 : Cond := Cond.methodLink "ChoraleSearchModel" 155 ⟨"ChoraleSearchModel", "lesser", "(II)I"⟩
def gw_991 : Cond := Cond.static ⟨"ChoraleSearchModel", "lesser", "(II)I"⟩
def gw_992 : Cond := Cond.code ⟨"ChoraleSearchModel", "lesser", "(II)I"⟩ prog_13_method_21_code 2 (some .int)
def gw_993 : Cond := Cond.methodLink "ChoraleSearchModel" 158 ⟨"ChoraleSearchModel", "mayHave", "(IIII)Z"⟩
def gw_995 : Cond := Cond.instanceMethod ⟨"ChoraleSearchModel", "mayHave", "(IIII)Z"⟩
def gw_996 : Cond := Cond.code ⟨"ChoraleSearchModel", "mayHave", "(IIII)Z"⟩ prog_13_method_22_code 7 (some .boolean)
def gw_997 : Cond := Cond.methodLink "ChoraleSearchModel" 146 ⟨"ChoraleSearchModel", "memberOf", "(II)I"⟩
def gw_999 : Cond := Cond.instanceMethod ⟨"ChoraleSearchModel", "memberOf", "(II)I"⟩
def gw_1000 : Cond := Cond.code ⟨"ChoraleSearchModel", "memberOf", "(II)I"⟩ prog_13_method_6_code 5 (some .int)
def gw_1001 : Cond := Cond.methodLink "ChoraleSearchModel" 109 ⟨"ChoraleSearchModel", "degreeOf", "(I)I"⟩
def gw_1003 : Cond := Cond.instanceMethod ⟨"ChoraleSearchModel", "degreeOf", "(I)I"⟩
def gw_1004 : Cond := Cond.code ⟨"ChoraleSearchModel", "degreeOf", "(I)I"⟩ prog_13_method_5_code 2 (some .int)
def gw_1005 : Cond := Cond.methodLink "ChoraleSearchModel" 113 ⟨"ChoraleSearchModel", "degree", "(II)I"⟩
def gw_1007 : Cond := Cond.instanceMethod ⟨"ChoraleSearchModel", "degree", "(II)I"⟩
def gw_1008 : Cond := Cond.code ⟨"ChoraleSearchModel", "degree", "(II)I"⟩ prog_13_method_4_code 3 (some .int)
def gw_1009 : Cond := Cond.methodLink "ChoraleSearchModel" 162 ⟨"ChoraleSearchModel", "barsState", "(II)I"⟩
def gw_1011 : Cond := Cond.instanceMethod ⟨"ChoraleSearchModel", "barsState", "(II)I"⟩
def gw_1012 : Cond := Cond.code ⟨"ChoraleSearchModel", "barsState", "(II)I"⟩ prog_13_method_18_code 12 (some .int)
def gw_1013 : Cond := Cond.methodLink "ChoraleSearchModel" 165 ⟨"ChoraleSearchModel", "putState", "(III)V"⟩
def gw_1015 : Cond := Cond.instanceMethod ⟨"ChoraleSearchModel", "putState", "(III)V"⟩
def gw_1016 : Cond := Cond.code ⟨"ChoraleSearchModel", "putState", "(III)V"⟩ prog_13_method_25_code 7 none
def gw_1017 : Cond := Cond.methodLink "ChoraleSearchModel" 169 ⟨"ChoraleSearchModel", "orderTo", "(II)I"⟩
def gw_1019 : Cond := Cond.instanceMethod ⟨"ChoraleSearchModel", "orderTo", "(II)I"⟩
def gw_1020 : Cond := Cond.code ⟨"ChoraleSearchModel", "orderTo", "(II)I"⟩ prog_13_method_24_code 4 (some .int)
def gw_1021 : Cond := Cond.methodLink "ChoraleSearchModel" 172 ⟨"ChoraleSearchModel", "costOfState", "(I)I"⟩
def gw_1023 : Cond := Cond.instanceMethod ⟨"ChoraleSearchModel", "costOfState", "(I)I"⟩
def gw_1024 : Cond := Cond.code ⟨"ChoraleSearchModel", "costOfState", "(I)I"⟩ prog_13_method_19_code 7 (some .int)
def gw_1025 : Cond := Cond.methodLink "ChoraleSearchLaw" 60 ⟨"ChoraleSearchModel", "solve", "(I)I"⟩
def gw_1026 : Cond := Cond.instanceMethod ⟨"ChoraleSearchModel", "solve", "(I)I"⟩
def gw_1027 : Cond := Cond.selects "ChoraleSearchModel" ⟨"ChoraleSearchModel", "solve", "(I)I"⟩ ⟨"ChoraleSearchModel", "solve", "(I)I"⟩
def gw_1028 : Cond := Cond.code ⟨"ChoraleSearchModel", "solve", "(I)I"⟩ prog_13_method_39_code 2 (some .int)
def gw_1029 : Cond := Cond.constantLong "ChoraleSearchModel" 208 (100 : Int64)
def gw_1030 : Cond := Cond.methodLink "ChoraleSearchModel" 210 ⟨"ChoraleSearchModel", "findAll", "()Z"⟩
def gw_1032 : Cond := Cond.instanceMethod ⟨"ChoraleSearchModel", "findAll", "()Z"⟩
def gw_1033 : Cond := Cond.code ⟨"ChoraleSearchModel", "findAll", "()Z"⟩ prog_13_method_26_code 2 (some .boolean)
def gw_1034 : Cond := Cond.methodLink "ChoraleSearchModel" 214 ⟨"ChoraleSearchModel", "goBack", "(I)Z"⟩
def gw_1036 : Cond := Cond.instanceMethod ⟨"ChoraleSearchModel", "goBack", "(I)Z"⟩
def gw_1037 : Cond := Cond.code ⟨"ChoraleSearchModel", "goBack", "(I)Z"⟩ prog_13_method_37_code 9 (some .boolean)
def gw_1038 : Cond := Cond.methodLink "ChoraleSearchModel" 194 ⟨"ChoraleSearchModel", "addWay", "(IIII)V"⟩
def gw_1040 : Cond := Cond.instanceMethod ⟨"ChoraleSearchModel", "addWay", "(IIII)V"⟩
def gw_1041 : Cond := Cond.code ⟨"ChoraleSearchModel", "addWay", "(IIII)V"⟩ prog_13_method_34_code 9 none
def gw_1042 : Cond := Cond.methodLink "ChoraleSearchModel" 191 ⟨"ChoraleSearchModel", "isBehind", "(IIII)Z"⟩
def gw_1044 : Cond := Cond.instanceMethod ⟨"ChoraleSearchModel", "isBehind", "(IIII)Z"⟩
def gw_1045 : Cond := Cond.code ⟨"ChoraleSearchModel", "isBehind", "(IIII)Z"⟩ prog_13_method_35_code 5 (some .boolean)
def gw_1046 : Cond := Cond.methodLink "ChoraleSearchModel" 198 ⟨"ChoraleSearchModel", "barsStep", "(II)I"⟩
def gw_1048 : Cond := Cond.instanceMethod ⟨"ChoraleSearchModel", "barsStep", "(II)I"⟩
def gw_1049 : Cond := Cond.code ⟨"ChoraleSearchModel", "barsStep", "(II)I"⟩ prog_13_method_32_code 14 (some .int)
def gw_1050 : Cond := Cond.methodLink "ChoraleSearchModel" 182 ⟨"ChoraleSearchModel", "units", "(II)I"⟩
def gw_1051 : Cond := Cond.static ⟨"ChoraleSearchModel", "units", "(II)I"⟩
def gw_1052 : Cond := Cond.code ⟨"ChoraleSearchModel", "units", "(II)I"⟩ prog_13_method_29_code 4 (some .int)
def gw_1053 : Cond := Cond.methodLink "ChoraleSearchModel" 179 ⟨"ChoraleSearchModel", "function", "(I)I"⟩
def gw_1054 : Cond := Cond.static ⟨"ChoraleSearchModel", "function", "(I)I"⟩
def gw_1055 : Cond := Cond.code ⟨"ChoraleSearchModel", "function", "(I)I"⟩ prog_13_method_28_code 1 (some .int)
def gw_1056 : Cond := Cond.methodLink "ChoraleSearchModel" 185 ⟨"ChoraleSearchModel", "size", "(I)I"⟩
def gw_1057 : Cond := Cond.static ⟨"ChoraleSearchModel", "size", "(I)I"⟩
def gw_1058 : Cond := Cond.code ⟨"ChoraleSearchModel", "size", "(I)I"⟩ prog_13_method_30_code 1 (some .int)
def gw_1059 : Cond := Cond.methodLink "ChoraleSearchModel" 188 ⟨"ChoraleSearchModel", "apart", "(I)I"⟩
def gw_1060 : Cond := Cond.static ⟨"ChoraleSearchModel", "apart", "(I)I"⟩
def gw_1061 : Cond := Cond.code ⟨"ChoraleSearchModel", "apart", "(I)I"⟩ prog_13_method_31_code 1 (some .int)
def gw_1062 : Cond := Cond.methodLink "ChoraleSearchModel" 201 ⟨"ChoraleSearchModel", "costOfStep", "(II)I"⟩
def gw_1064 : Cond := Cond.instanceMethod ⟨"ChoraleSearchModel", "costOfStep", "(II)I"⟩
def gw_1065 : Cond := Cond.code ⟨"ChoraleSearchModel", "costOfStep", "(II)I"⟩ prog_13_method_33_code 9 (some .int)
def gw_1066 : Cond := Cond.methodLink "ChoraleSearchModel" 204 ⟨"ChoraleSearchModel", "narrow", "(II)Z"⟩
def gw_1068 : Cond := Cond.instanceMethod ⟨"ChoraleSearchModel", "narrow", "(II)Z"⟩
def gw_1069 : Cond := Cond.code ⟨"ChoraleSearchModel", "narrow", "(II)Z"⟩ prog_13_method_36_code 8 (some .boolean)
def gw_1070 : Cond := Cond.methodLink "ChoraleSearchModel" 220 ⟨"ChoraleSearchModel", "takeRows", "()V"⟩
def gw_1072 : Cond := Cond.instanceMethod ⟨"ChoraleSearchModel", "takeRows", "()V"⟩
def gw_1073 : Cond := Cond.code ⟨"ChoraleSearchModel", "takeRows", "()V"⟩ prog_13_method_38_code 6 none
def gw_1074 : Cond := Cond.methodLink "ChoraleSearchLaw" 64 ⟨"ChoraleSearchModel", "note", "(III)I"⟩
def gw_1075 : Cond := Cond.instanceMethod ⟨"ChoraleSearchModel", "note", "(III)I"⟩
def gw_1076 : Cond := Cond.selects "ChoraleSearchModel" ⟨"ChoraleSearchModel", "note", "(III)I"⟩ ⟨"ChoraleSearchModel", "note", "(III)I"⟩
def gw_1077 : Cond := Cond.code ⟨"ChoraleSearchModel", "note", "(III)I"⟩ prog_13_method_41_code 4 (some .int)
def gw_1078 : Cond := Cond.methodLink "ChoraleSearchModel" 223 ⟨"ChoraleSearchModel", "noRow", "(I)Z"⟩
def gw_1080 : Cond := Cond.instanceMethod ⟨"ChoraleSearchModel", "noRow", "(I)Z"⟩
def gw_1081 : Cond := Cond.code ⟨"ChoraleSearchModel", "noRow", "(I)Z"⟩ prog_13_method_40_code 2 (some .boolean)
def gw_1082 : Cond := Cond.methodLink "ChoraleSearchLaw" 68 ⟨"ChoraleSearchModel", "chord", "(II)I"⟩
def gw_1083 : Cond := Cond.instanceMethod ⟨"ChoraleSearchModel", "chord", "(II)I"⟩
def gw_1084 : Cond := Cond.selects "ChoraleSearchModel" ⟨"ChoraleSearchModel", "chord", "(II)I"⟩ ⟨"ChoraleSearchModel", "chord", "(II)I"⟩
def gw_1085 : Cond := Cond.code ⟨"ChoraleSearchModel", "chord", "(II)I"⟩ prog_13_method_42_code 3 (some .int)
def gw_1086 : Cond := Cond.methodLink "ChoraleSearchLaw" 72 ⟨"ChoraleSearchModel", "sum", "(I)I"⟩
def gw_1087 : Cond := Cond.instanceMethod ⟨"ChoraleSearchModel", "sum", "(I)I"⟩
def gw_1088 : Cond := Cond.selects "ChoraleSearchModel" ⟨"ChoraleSearchModel", "sum", "(I)I"⟩ ⟨"ChoraleSearchModel", "sum", "(I)I"⟩
def gw_1089 : Cond := Cond.code ⟨"ChoraleSearchModel", "sum", "(I)I"⟩ prog_13_method_43_code 2 (some .int)
def gw_1090 : Cond := Cond.methodLink "ChoraleSearchLaw" 77 ⟨"ChoraleSearchModel", "least", "()I"⟩
def gw_1091 : Cond := Cond.instanceMethod ⟨"ChoraleSearchModel", "least", "()I"⟩
def gw_1092 : Cond := Cond.selects "ChoraleSearchModel" ⟨"ChoraleSearchModel", "least", "()I"⟩ ⟨"ChoraleSearchModel", "least", "()I"⟩
def gw_1093 : Cond := Cond.code ⟨"ChoraleSearchModel", "least", "()I"⟩ prog_13_method_44_code 1 (some .int)
def gw_1094 : Cond := Cond.methodLink "ChoraleSearchLaw" 85 ⟨"ChoraleSearchModel", "blocked", "(I)I"⟩
def gw_1095 : Cond := Cond.instanceMethod ⟨"ChoraleSearchModel", "blocked", "(I)I"⟩
def gw_1096 : Cond := Cond.selects "ChoraleSearchModel" ⟨"ChoraleSearchModel", "blocked", "(I)I"⟩ ⟨"ChoraleSearchModel", "blocked", "(I)I"⟩
def gw_1097 : Cond := Cond.code ⟨"ChoraleSearchModel", "blocked", "(I)I"⟩ prog_13_method_46_code 4 (some .int)
def gw_1098 : Cond := Cond.constantLong "ChoraleSearchModel" 229 (2 : Int64)
def gw_1099 : Cond := Cond.methodLink "ChoraleSearchModel" 231 ⟨"ChoraleSearchModel", "firstBarred", "()I"⟩
def gw_1101 : Cond := Cond.instanceMethod ⟨"ChoraleSearchModel", "firstBarred", "()I"⟩
def gw_1102 : Cond := Cond.code ⟨"ChoraleSearchModel", "firstBarred", "()I"⟩ prog_13_method_45_code 6 (some .int)
def gw_1103 : Cond := Cond.methodLink "ChoraleSearchLaw" 89 ⟨"ChoraleSearchModel", "repair", "()I"⟩
def gw_1104 : Cond := Cond.instanceMethod ⟨"ChoraleSearchModel", "repair", "()I"⟩
def gw_1105 : Cond := Cond.selects "ChoraleSearchModel" ⟨"ChoraleSearchModel", "repair", "()I"⟩ ⟨"ChoraleSearchModel", "repair", "()I"⟩
def gw_1106 : Cond := Cond.code ⟨"ChoraleSearchModel", "repair", "()I"⟩ prog_13_method_47_code 5 (some .int)
def gw_1107 : Cond := Cond.methodLink "ChoraleSearchLaw" 93 ⟨"ChoraleSearchModel", "passing", "(II)I"⟩
def gw_1108 : Cond := Cond.instanceMethod ⟨"ChoraleSearchModel", "passing", "(II)I"⟩
def gw_1109 : Cond := Cond.selects "ChoraleSearchModel" ⟨"ChoraleSearchModel", "passing", "(II)I"⟩ ⟨"ChoraleSearchModel", "passing", "(II)I"⟩
def gw_1110 : Cond := Cond.code ⟨"ChoraleSearchModel", "passing", "(II)I"⟩ prog_13_method_48_code 9 (some .int)
def gw_1111 : Cond := Cond.methodLink "ChoraleSearchLaw" 97 ⟨"ChoraleSearchModel", "count", "(I)I"⟩
def gw_1112 : Cond := Cond.instanceMethod ⟨"ChoraleSearchModel", "count", "(I)I"⟩
def gw_1113 : Cond := Cond.selects "ChoraleSearchModel" ⟨"ChoraleSearchModel", "count", "(I)I"⟩ ⟨"ChoraleSearchModel", "count", "(I)I"⟩
def gw_1114 : Cond := Cond.code ⟨"ChoraleSearchModel", "count", "(I)I"⟩ prog_13_method_49_code 4 (some .int)
def gw_1115 : Cond := Cond.methodLink "ChoraleSearchLaw" 101 ⟨"ChoraleSearchModel", "member", "(II)I"⟩
def gw_1116 : Cond := Cond.instanceMethod ⟨"ChoraleSearchModel", "member", "(II)I"⟩
def gw_1117 : Cond := Cond.selects "ChoraleSearchModel" ⟨"ChoraleSearchModel", "member", "(II)I"⟩ ⟨"ChoraleSearchModel", "member", "(II)I"⟩
def gw_1118 : Cond := Cond.code ⟨"ChoraleSearchModel", "member", "(II)I"⟩ prog_13_method_50_code 3 (some .int)
def gp_0 : Cond := Cond.selects "ChoraleSearch$Score" ⟨"ChoraleSearch$Score", "clearFrom", "(I)V"⟩ ⟨"ChoraleSearch$Score", "clearFrom", "(I)V"⟩
def gp_1 : Cond := Cond.selects "ChoraleSearch$Harmony" ⟨"ChoraleSearch$Harmony", "tune", "(II)V"⟩ ⟨"ChoraleSearch$Harmony", "tune", "(II)V"⟩
def gp_2 : Cond := Cond.selects "ChoraleSearch$Harmony" ⟨"ChoraleSearch$Harmony", "tuneMember", "(II)V"⟩ ⟨"ChoraleSearch$Harmony", "tuneMember", "(II)V"⟩
def gp_3 : Cond := Cond.selects "ChoraleSearch" ⟨"ChoraleSearch", "forgetFound", "()V"⟩ ⟨"ChoraleSearch", "forgetFound", "()V"⟩
def gp_4 : Cond := Cond.selects "ChoraleSearch$RowSearch" ⟨"ChoraleSearch$RowSearch", "forget", "()V"⟩ ⟨"ChoraleSearch$RowSearch", "forget", "()V"⟩
def gp_5 : Cond := Cond.selects "ChoraleSearch$Table" ⟨"ChoraleSearch$Table", "spoil", "()V"⟩ ⟨"ChoraleSearch$Table", "spoil", "()V"⟩
def gp_6 : Cond := Cond.selects "ChoraleSearch" ⟨"ChoraleSearch", "isPlace", "(I)Z"⟩ ⟨"ChoraleSearch", "isPlace", "(I)Z"⟩
def gp_7 : Cond := Cond.selects "ChoraleSearch" ⟨"ChoraleSearch", "setPitch", "(III)I"⟩ ⟨"ChoraleSearch", "setPitch", "(III)I"⟩
def gp_8 : Cond := Cond.selects "ChoraleSearch$Table" ⟨"ChoraleSearch$Table", "prepare", "()V"⟩ ⟨"ChoraleSearch$Table", "prepare", "()V"⟩
def gp_9 : Cond := Cond.selects "ChoraleSearch$StateRules" ⟨"ChoraleSearch$StateRules", "fill", "(LChoraleSearch$Layer;I)V"⟩ ⟨"ChoraleSearch$StateRules", "fill", "(LChoraleSearch$Layer;I)V"⟩
def gp_10 : Cond := Cond.selects "ChoraleSearch$StateRules" ⟨"ChoraleSearch$StateRules", "setLimits", "(I)V"⟩ ⟨"ChoraleSearch$StateRules", "setLimits", "(I)V"⟩
def gp_11 : Cond := Cond.selects "ChoraleSearch$Score" ⟨"ChoraleSearch$Score", "lowAt", "(II)I"⟩ ⟨"ChoraleSearch$Score", "lowAt", "(II)I"⟩
def gp_12 : Cond := Cond.selects "ChoraleSearch$Score" ⟨"ChoraleSearch$Score", "highAt", "(II)I"⟩ ⟨"ChoraleSearch$Score", "highAt", "(II)I"⟩
def gp_13 : Cond := Cond.selects "ChoraleSearch$Score" ⟨"ChoraleSearch$Score", "figuredChords", "(I)I"⟩ ⟨"ChoraleSearch$Score", "figuredChords", "(I)I"⟩
def gp_14 : Cond := Cond.selects "ChoraleSearch$StateRules" ⟨"ChoraleSearch$StateRules", "chordsByRule6", "(I)I"⟩ ⟨"ChoraleSearch$StateRules", "chordsByRule6", "(I)I"⟩
def gp_15 : Cond := Cond.selects "ChoraleSearch$Score" ⟨"ChoraleSearch$Score", "isLast", "(I)Z"⟩ ⟨"ChoraleSearch$Score", "isLast", "(I)Z"⟩
def gp_16 : Cond := Cond.selects "ChoraleSearch$Harmony" ⟨"ChoraleSearch$Harmony", "chordsWith", "(I)I"⟩ ⟨"ChoraleSearch$Harmony", "chordsWith", "(I)I"⟩
def gp_17 : Cond := Cond.selects "ChoraleSearch$StateRules" ⟨"ChoraleSearch$StateRules", "fillBass", "(LChoraleSearch$Layer;IIII)V"⟩ ⟨"ChoraleSearch$StateRules", "fillBass", "(LChoraleSearch$Layer;IIII)V"⟩
def gp_18 : Cond := Cond.selects "ChoraleSearch$StateRules" ⟨"ChoraleSearch$StateRules", "bassChords", "(II)I"⟩ ⟨"ChoraleSearch$StateRules", "bassChords", "(II)I"⟩
def gp_19 : Cond := Cond.selects "ChoraleSearch$Harmony" ⟨"ChoraleSearch$Harmony", "chordsWithMember", "(II)I"⟩ ⟨"ChoraleSearch$Harmony", "chordsWithMember", "(II)I"⟩
def gp_20 : Cond := Cond.selects "ChoraleSearch$StateRules" ⟨"ChoraleSearch$StateRules", "addComplete", "(LChoraleSearch$Layer;II)V"⟩ ⟨"ChoraleSearch$StateRules", "addComplete", "(LChoraleSearch$Layer;II)V"⟩
def gp_21 : Cond := Cond.selects "ChoraleSearch$StateRules" ⟨"ChoraleSearch$StateRules", "keepsRules4And5", "(II)Z"⟩ ⟨"ChoraleSearch$StateRules", "keepsRules4And5", "(II)Z"⟩
def gp_22 : Cond := Cond.selects "ChoraleSearch$Harmony" ⟨"ChoraleSearch$Harmony", "memberClass", "(II)I"⟩ ⟨"ChoraleSearch$Harmony", "memberClass", "(II)I"⟩
def gp_23 : Cond := Cond.selects "ChoraleSearch$Harmony" ⟨"ChoraleSearch$Harmony", "guardsLeading", "(I)Z"⟩ ⟨"ChoraleSearch$Harmony", "guardsLeading", "(I)Z"⟩
def gp_24 : Cond := Cond.selects "ChoraleSearch$Layer" ⟨"ChoraleSearch$Layer", "add", "(I)V"⟩ ⟨"ChoraleSearch$Layer", "add", "(I)V"⟩
def gp_25 : Cond := Cond.selects "ChoraleSearch$Table" ⟨"ChoraleSearch$Table", "overflows", "()Z"⟩ ⟨"ChoraleSearch$Table", "overflows", "()Z"⟩
def gp_26 : Cond := Cond.selects "ChoraleSearch$RowSearch" ⟨"ChoraleSearch$RowSearch", "run", "(I)V"⟩ ⟨"ChoraleSearch$RowSearch", "run", "(I)V"⟩
def gp_27 : Cond := Cond.selects "ChoraleSearch$RowSearch" ⟨"ChoraleSearch$RowSearch", "findRests", "(I)V"⟩ ⟨"ChoraleSearch$RowSearch", "findRests", "(I)V"⟩
def gp_28 : Cond := Cond.selects "ChoraleSearch$Layer" ⟨"ChoraleSearch$Layer", "kept", "()I"⟩ ⟨"ChoraleSearch$Layer", "kept", "()I"⟩
def gp_29 : Cond := Cond.selects "ChoraleSearch$Costs" ⟨"ChoraleSearch$Costs", "ofState", "(I)I"⟩ ⟨"ChoraleSearch$Costs", "ofState", "(I)I"⟩
def gp_30 : Cond := Cond.selects "ChoraleSearch$Costs" ⟨"ChoraleSearch$Costs", "inversionUnits", "(I)I"⟩ ⟨"ChoraleSearch$Costs", "inversionUnits", "(I)I"⟩
def gp_31 : Cond := Cond.selects "ChoraleSearch$Harmony" ⟨"ChoraleSearch$Harmony", "timesMember", "(II)I"⟩ ⟨"ChoraleSearch$Harmony", "timesMember", "(II)I"⟩
def gp_32 : Cond := Cond.selects "ChoraleSearch$RowSearch" ⟨"ChoraleSearch$RowSearch", "linkOnward", "(III)V"⟩ ⟨"ChoraleSearch$RowSearch", "linkOnward", "(III)V"⟩
def gp_33 : Cond := Cond.selects "ChoraleSearch$StepRules" ⟨"ChoraleSearch$StepRules", "allow", "(II)Z"⟩ ⟨"ChoraleSearch$StepRules", "allow", "(II)Z"⟩
def gp_34 : Cond := Cond.selects "ChoraleSearch$StepRules" ⟨"ChoraleSearch$StepRules", "lookAt", "(II)V"⟩ ⟨"ChoraleSearch$StepRules", "lookAt", "(II)V"⟩
def gp_35 : Cond := Cond.selects "ChoraleSearch$StepRules" ⟨"ChoraleSearch$StepRules", "breaks7", "()Z"⟩ ⟨"ChoraleSearch$StepRules", "breaks7", "()Z"⟩
def gp_36 : Cond := Cond.selects "ChoraleSearch$Harmony" ⟨"ChoraleSearch$Harmony", "unitsBetween", "(II)I"⟩ ⟨"ChoraleSearch$Harmony", "unitsBetween", "(II)I"⟩
def gp_37 : Cond := Cond.selects "ChoraleSearch$StepRules" ⟨"ChoraleSearch$StepRules", "breaks10", "()Z"⟩ ⟨"ChoraleSearch$StepRules", "breaks10", "()Z"⟩
def gp_38 : Cond := Cond.selects "ChoraleSearch$StepRules" ⟨"ChoraleSearch$StepRules", "breaks9", "()Z"⟩ ⟨"ChoraleSearch$StepRules", "breaks9", "()Z"⟩
def gp_39 : Cond := Cond.selects "ChoraleSearch$StepRules" ⟨"ChoraleSearch$StepRules", "breaks8", "()Z"⟩ ⟨"ChoraleSearch$StepRules", "breaks8", "()Z"⟩
def gp_40 : Cond := Cond.selects "ChoraleSearch$StepRules" ⟨"ChoraleSearch$StepRules", "breaks11", "()Z"⟩ ⟨"ChoraleSearch$StepRules", "breaks11", "()Z"⟩
def gp_41 : Cond := Cond.selects "ChoraleSearch$StepRules" ⟨"ChoraleSearch$StepRules", "leadsAstray", "(I)Z"⟩ ⟨"ChoraleSearch$StepRules", "leadsAstray", "(I)Z"⟩
def gp_42 : Cond := Cond.selects "ChoraleSearch$StepRules" ⟨"ChoraleSearch$StepRules", "breaks12", "()Z"⟩ ⟨"ChoraleSearch$StepRules", "breaks12", "()Z"⟩
def gp_43 : Cond := Cond.selects "ChoraleSearch$Costs" ⟨"ChoraleSearch$Costs", "ofStep", "(II)I"⟩ ⟨"ChoraleSearch$Costs", "ofStep", "(II)I"⟩
def gp_44 : Cond := Cond.selects "ChoraleSearch$RowSearch" ⟨"ChoraleSearch$RowSearch", "insertRests", "(IIII)V"⟩ ⟨"ChoraleSearch$RowSearch", "insertRests", "(IIII)V"⟩
def gp_45 : Cond := Cond.selects "ChoraleSearch$RowSearch" ⟨"ChoraleSearch$RowSearch", "narrow", "(II)V"⟩ ⟨"ChoraleSearch$RowSearch", "narrow", "(II)V"⟩
def gp_46 : Cond := Cond.selects "ChoraleSearch$RowSearch" ⟨"ChoraleSearch$RowSearch", "sortIn", "(II)V"⟩ ⟨"ChoraleSearch$RowSearch", "sortIn", "(II)V"⟩
def gp_47 : Cond := Cond.selects "ChoraleSearch$RowSearch" ⟨"ChoraleSearch$RowSearch", "dropWorst", "([III)V"⟩ ⟨"ChoraleSearch$RowSearch", "dropWorst", "([III)V"⟩
def gp_48 : Cond := Cond.selects "ChoraleSearch$RowSearch" ⟨"ChoraleSearch$RowSearch", "listAlive", "(I)V"⟩ ⟨"ChoraleSearch$RowSearch", "listAlive", "(I)V"⟩
def gp_49 : Cond := Cond.selects "ChoraleSearch$RowSearch" ⟨"ChoraleSearch$RowSearch", "gatherRows", "()V"⟩ ⟨"ChoraleSearch$RowSearch", "gatherRows", "()V"⟩
def gp_50 : Cond := Cond.selects "ChoraleSearch$RowSearch" ⟨"ChoraleSearch$RowSearch", "traceRows", "()V"⟩ ⟨"ChoraleSearch$RowSearch", "traceRows", "()V"⟩
def gp_51 : Cond := Cond.selects "ChoraleSearch" ⟨"ChoraleSearch", "isRow", "(I)Z"⟩ ⟨"ChoraleSearch", "isRow", "(I)Z"⟩
def gp_52 : Cond := Cond.selects "ChoraleSearch$RowSearch" ⟨"ChoraleSearch$RowSearch", "codeAt", "(II)I"⟩ ⟨"ChoraleSearch$RowSearch", "codeAt", "(II)I"⟩
def gp_53 : Cond := Cond.selects "ChoraleSearch$Reach" ⟨"ChoraleSearch$Reach", "firstUnreached", "()I"⟩ ⟨"ChoraleSearch$Reach", "firstUnreached", "()I"⟩
def gp_54 : Cond := Cond.selects "ChoraleSearch$Reach" ⟨"ChoraleSearch$Reach", "markReached", "(I)Z"⟩ ⟨"ChoraleSearch$Reach", "markReached", "(I)Z"⟩
def gp_55 : Cond := Cond.selects "ChoraleSearch$Reach" ⟨"ChoraleSearch$Reach", "isEntered", "(II)Z"⟩ ⟨"ChoraleSearch$Reach", "isEntered", "(II)Z"⟩
def gp_56 : Cond := Cond.selects "ChoraleSearch$Layer" ⟨"ChoraleSearch$Layer", "isMarked", "(II)Z"⟩ ⟨"ChoraleSearch$Layer", "isMarked", "(II)Z"⟩
def gp_57 : Cond := Cond.selects "ChoraleSearch$Reach" ⟨"ChoraleSearch$Reach", "barringRules", "(I)I"⟩ ⟨"ChoraleSearch$Reach", "barringRules", "(I)I"⟩
def gp_58 : Cond := Cond.selects "ChoraleSearch$StateRules" ⟨"ChoraleSearch$StateRules", "barring", "(I)I"⟩ ⟨"ChoraleSearch$StateRules", "barring", "(I)I"⟩
def gp_59 : Cond := Cond.selects "ChoraleSearch$StateRules" ⟨"ChoraleSearch$StateRules", "surveyVoices", "(II)Z"⟩ ⟨"ChoraleSearch$StateRules", "surveyVoices", "(II)Z"⟩
def gp_60 : Cond := Cond.selects "ChoraleSearch$StateRules" ⟨"ChoraleSearch$StateRules", "surveyVoice", "(III)V"⟩ ⟨"ChoraleSearch$StateRules", "surveyVoice", "(III)V"⟩
def gp_61 : Cond := Cond.selects "ChoraleSearch$StateRules" ⟨"ChoraleSearch$StateRules", "memberAt", "(II)I"⟩ ⟨"ChoraleSearch$StateRules", "memberAt", "(II)I"⟩
def gp_62 : Cond := Cond.selects "ChoraleSearch$StateRules" ⟨"ChoraleSearch$StateRules", "maySound", "(III)Z"⟩ ⟨"ChoraleSearch$StateRules", "maySound", "(III)Z"⟩
def gp_63 : Cond := Cond.selects "ChoraleSearch$StateRules" ⟨"ChoraleSearch$StateRules", "someBreak3", "()Z"⟩ ⟨"ChoraleSearch$StateRules", "someBreak3", "()Z"⟩
def gp_64 : Cond := Cond.selects "ChoraleSearch$StateRules" ⟨"ChoraleSearch$StateRules", "someBreak4", "(I)Z"⟩ ⟨"ChoraleSearch$StateRules", "someBreak4", "(I)Z"⟩
def gp_65 : Cond := Cond.selects "ChoraleSearch$StateRules" ⟨"ChoraleSearch$StateRules", "canMiss", "(I)Z"⟩ ⟨"ChoraleSearch$StateRules", "canMiss", "(I)Z"⟩
def gp_66 : Cond := Cond.selects "ChoraleSearch$StateRules" ⟨"ChoraleSearch$StateRules", "someBreak5", "(I)Z"⟩ ⟨"ChoraleSearch$StateRules", "someBreak5", "(I)Z"⟩
def gp_67 : Cond := Cond.selects "ChoraleSearch$StateRules" ⟨"ChoraleSearch$StateRules", "canDouble", "(I)Z"⟩ ⟨"ChoraleSearch$StateRules", "canDouble", "(I)Z"⟩
def gp_68 : Cond := Cond.selects "ChoraleSearch$StateRules" ⟨"ChoraleSearch$StateRules", "someBreak6", "(II)Z"⟩ ⟨"ChoraleSearch$StateRules", "someBreak6", "(II)Z"⟩
def gp_69 : Cond := Cond.selects "ChoraleSearch$Reach" ⟨"ChoraleSearch$Reach", "barringSteps", "(ILChoraleSearch$Layer;)I"⟩ ⟨"ChoraleSearch$Reach", "barringSteps", "(ILChoraleSearch$Layer;)I"⟩
def gp_70 : Cond := Cond.selects "ChoraleSearch$StepRules" ⟨"ChoraleSearch$StepRules", "barring", "(II)I"⟩ ⟨"ChoraleSearch$StepRules", "barring", "(II)I"⟩
def gp_71 : Cond := Cond.selects "ChoraleSearch$Reach" ⟨"ChoraleSearch$Reach", "noteToGiveWay", "()I"⟩ ⟨"ChoraleSearch$Reach", "noteToGiveWay", "()I"⟩
def gp_72 : Cond := Cond.selects "ChoraleSearch$Reach" ⟨"ChoraleSearch$Reach", "markGoingOn", "()V"⟩ ⟨"ChoraleSearch$Reach", "markGoingOn", "()V"⟩
def gp_73 : Cond := Cond.selects "ChoraleSearch$Reach" ⟨"ChoraleSearch$Reach", "goesOn", "(II)Z"⟩ ⟨"ChoraleSearch$Reach", "goesOn", "(II)Z"⟩
def gp_74 : Cond := Cond.selects "ChoraleSearch$Reach" ⟨"ChoraleSearch$Reach", "trialJoins", "(I)Z"⟩ ⟨"ChoraleSearch$Reach", "trialJoins", "(I)Z"⟩
def gp_75 : Cond := Cond.selects "ChoraleSearch$Harmony" ⟨"ChoraleSearch$Harmony", "inScale", "(I)Z"⟩ ⟨"ChoraleSearch$Harmony", "inScale", "(I)Z"⟩
def gp_76 : Cond := Cond.selects "ChoraleSearch$Score" ⟨"ChoraleSearch$Score", "givenNotes", "()I"⟩ ⟨"ChoraleSearch$Score", "givenNotes", "()I"⟩
def gp_77 : Cond := Cond.selects "ChoraleSearchModel" ⟨"ChoraleSearchModel", "noPlace", "(I)Z"⟩ ⟨"ChoraleSearchModel", "noPlace", "(I)Z"⟩
def gp_78 : Cond := Cond.selects "ChoraleSearchModel" ⟨"ChoraleSearchModel", "findStates", "(IZZ)I"⟩ ⟨"ChoraleSearchModel", "findStates", "(IZZ)I"⟩
def gp_79 : Cond := Cond.selects "ChoraleSearchModel" ⟨"ChoraleSearchModel", "mayHave", "(IIII)Z"⟩ ⟨"ChoraleSearchModel", "mayHave", "(IIII)Z"⟩
def gp_80 : Cond := Cond.selects "ChoraleSearchModel" ⟨"ChoraleSearchModel", "memberOf", "(II)I"⟩ ⟨"ChoraleSearchModel", "memberOf", "(II)I"⟩
def gp_81 : Cond := Cond.selects "ChoraleSearchModel" ⟨"ChoraleSearchModel", "degreeOf", "(I)I"⟩ ⟨"ChoraleSearchModel", "degreeOf", "(I)I"⟩
def gp_82 : Cond := Cond.selects "ChoraleSearchModel" ⟨"ChoraleSearchModel", "degree", "(II)I"⟩ ⟨"ChoraleSearchModel", "degree", "(II)I"⟩
def gp_83 : Cond := Cond.selects "ChoraleSearchModel" ⟨"ChoraleSearchModel", "barsState", "(II)I"⟩ ⟨"ChoraleSearchModel", "barsState", "(II)I"⟩
def gp_84 : Cond := Cond.selects "ChoraleSearchModel" ⟨"ChoraleSearchModel", "putState", "(III)V"⟩ ⟨"ChoraleSearchModel", "putState", "(III)V"⟩
def gp_85 : Cond := Cond.selects "ChoraleSearchModel" ⟨"ChoraleSearchModel", "orderTo", "(II)I"⟩ ⟨"ChoraleSearchModel", "orderTo", "(II)I"⟩
def gp_86 : Cond := Cond.selects "ChoraleSearchModel" ⟨"ChoraleSearchModel", "costOfState", "(I)I"⟩ ⟨"ChoraleSearchModel", "costOfState", "(I)I"⟩
def gp_87 : Cond := Cond.selects "ChoraleSearchModel" ⟨"ChoraleSearchModel", "findAll", "()Z"⟩ ⟨"ChoraleSearchModel", "findAll", "()Z"⟩
def gp_88 : Cond := Cond.selects "ChoraleSearchModel" ⟨"ChoraleSearchModel", "goBack", "(I)Z"⟩ ⟨"ChoraleSearchModel", "goBack", "(I)Z"⟩
def gp_89 : Cond := Cond.selects "ChoraleSearchModel" ⟨"ChoraleSearchModel", "addWay", "(IIII)V"⟩ ⟨"ChoraleSearchModel", "addWay", "(IIII)V"⟩
def gp_90 : Cond := Cond.selects "ChoraleSearchModel" ⟨"ChoraleSearchModel", "isBehind", "(IIII)Z"⟩ ⟨"ChoraleSearchModel", "isBehind", "(IIII)Z"⟩
def gp_91 : Cond := Cond.selects "ChoraleSearchModel" ⟨"ChoraleSearchModel", "barsStep", "(II)I"⟩ ⟨"ChoraleSearchModel", "barsStep", "(II)I"⟩
def gp_92 : Cond := Cond.selects "ChoraleSearchModel" ⟨"ChoraleSearchModel", "costOfStep", "(II)I"⟩ ⟨"ChoraleSearchModel", "costOfStep", "(II)I"⟩
def gp_93 : Cond := Cond.selects "ChoraleSearchModel" ⟨"ChoraleSearchModel", "narrow", "(II)Z"⟩ ⟨"ChoraleSearchModel", "narrow", "(II)Z"⟩
def gp_94 : Cond := Cond.selects "ChoraleSearchModel" ⟨"ChoraleSearchModel", "takeRows", "()V"⟩ ⟨"ChoraleSearchModel", "takeRows", "()V"⟩
def gp_95 : Cond := Cond.selects "ChoraleSearchModel" ⟨"ChoraleSearchModel", "noRow", "(I)Z"⟩ ⟨"ChoraleSearchModel", "noRow", "(I)Z"⟩
def gp_96 : Cond := Cond.selects "ChoraleSearchModel" ⟨"ChoraleSearchModel", "firstBarred", "()I"⟩ ⟨"ChoraleSearchModel", "firstBarred", "()I"⟩
def gc_0 : List Cond := [gw_0, gw_1, gw_2, gw_3, gw_4, gw_5, gw_6, gw_7, gw_8, gw_9, gw_10, gw_11, gw_12, gw_13, gw_14, gw_15, gw_16, gw_17, gw_18, gw_19, gw_20, gw_21, gw_22, gw_23, gw_24, gw_25, gw_27, gw_28, gw_29, gw_30, gw_32, gw_33, gw_34, gw_39, gw_41, gw_44, gw_46, gw_49, gw_52, gw_55, gw_57, gw_59, gw_61, gw_63, gw_65, gw_67, gw_69, gw_71]
def gc_1 : List Cond := [gw_73, gw_75, gw_78, gw_79, gw_80, gw_81, gw_83, gw_84, gw_85, gw_86, gw_87, gw_88, gw_89, gw_91, gw_92, gw_93, gw_94, gw_95, gw_96, gw_97, gw_98, gw_99, gw_100, gw_102, gw_103, gw_104, gw_105, gw_106, gw_107, gw_109, gw_110, gw_111, gw_113, gw_115, gw_117, gw_119, gw_122, gw_123, gw_124, gw_125, gw_126, gw_128, gw_130, gw_132, gw_134, gw_136, gw_138, gw_141]
def gc_2 : List Cond := [gw_142, gw_144, gw_145, gw_146, gw_147, gw_148, gw_149, gw_150, gw_151, gw_152, gw_154, gw_156, gw_158, gw_160, gw_163, gw_164, gw_166, gw_167, gw_168, gw_169, gw_170, gw_171, gw_172, gw_173, gw_174, gw_176, gw_178, gw_180, gw_182, gw_185, gw_186, gw_188, gw_189, gw_190, gw_191, gw_193, gw_195, gw_196, gw_197, gw_198, gw_203, gw_206, gw_208, gw_210, gw_212, gw_215, gw_216, gw_217]
def gc_3 : List Cond := [gw_221, gw_222, gw_224, gw_226, gw_228, gw_231, gw_232, gw_234, gw_235, gw_236, gw_237, gw_239, gw_240, gw_241, gw_242, gw_243, gw_244, gw_246, gw_248, gw_250, gw_252, gw_255, gw_256, gw_257, gw_258, gw_260, gw_261, gw_262, gw_263, gw_264, gw_265, gw_267, gw_271, gw_272, gw_273, gw_274, gw_276, gw_277, gw_278, gw_279, gw_280, gw_281, gw_282, gw_283, gw_284, gw_285, gw_286, gw_287]
def gc_4 : List Cond := [gw_289, gw_290, gw_292, gw_294, gw_296, gw_298, gw_300, gw_302, gw_304, gw_306, gw_308, gw_310, gw_312, gw_314, gw_316, gw_318, gw_320, gw_322, gw_325, gw_326, gw_327, gw_328, gw_329, gw_330, gw_332, gw_334, gw_336, gw_338, gw_341, gw_342, gw_343, gw_344, gw_346, gw_348, gw_349, gw_352, gw_353, gw_356, gw_357, gw_358, gw_359, gw_360, gw_361, gw_363, gw_364, gw_365, gw_366, gw_367]
def gc_5 : List Cond := [gw_368, gw_369, gw_370, gw_372, gw_373, gw_374, gw_375, gw_376, gw_377, gw_379, gw_380, gw_381, gw_382, gw_383, gw_384, gw_385, gw_386, gw_387, gw_388, gw_389, gw_390, gw_391, gw_392, gw_393, gw_394, gw_395, gw_396, gw_397, gw_398, gw_399, gw_400, gw_401, gw_402, gw_403, gw_404, gw_405, gw_406, gw_407, gw_408, gw_409, gw_410, gw_411, gw_412, gw_413, gw_414, gw_415, gw_418, gw_419]
def gc_6 : List Cond := [gw_422, gw_423, gw_424, gw_426, gw_427, gw_430, gw_431, gw_432, gw_433, gw_434, gw_437, gw_438, gw_439, gw_440, gw_441, gw_444, gw_445, gw_446, gw_448, gw_449, gw_452, gw_453, gw_456, gw_457, gw_458, gw_459, gw_461, gw_463, gw_464, gw_465, gw_467, gw_468, gw_469, gw_471, gw_472, gw_475, gw_476, gw_477, gw_479, gw_480, gw_482, gw_483, gw_484, gw_486, gw_487, gw_490, gw_491, gw_493]
def gc_7 : List Cond := [gw_494, gw_497, gw_498, gw_501, gw_502, gw_505, gw_506, gw_509, gw_510, gw_511, gw_512, gw_514, gw_515, gw_516, gw_519, gw_520, gw_521, gw_524, gw_525, gw_526, gw_528, gw_529, gw_531, gw_532, gw_534, gw_535, gw_537, gw_539, gw_540, gw_541, gw_544, gw_545, gw_547, gw_550, gw_551, gw_552, gw_553, gw_555, gw_556, gw_559, gw_560, gw_561, gw_563, gw_564, gw_567, gw_568, gw_569, gw_571]
def gc_8 : List Cond := [gw_572, gw_575, gw_576, gw_577, gw_579, gw_580, gw_581, gw_583, gw_584, gw_585, gw_586, gw_587, gw_588, gw_590, gw_591, gw_592, gw_594, gw_595, gw_596, gw_598, gw_599, gw_600, gw_602, gw_603, gw_607, gw_608, gw_610, gw_611, gw_612, gw_613, gw_614, gw_615, gw_616, gw_617, gw_618, gw_620, gw_621, gw_622, gw_624, gw_625, gw_626, gw_628, gw_629, gw_630, gw_632, gw_633, gw_634, gw_636]
def gc_9 : List Cond := [gw_637, gw_638, gw_640, gw_641, gw_642, gw_644, gw_645, gw_646, gw_647, gw_648, gw_649, gw_650, gw_652, gw_653, gw_656, gw_657, gw_659, gw_660, gw_661, gw_662, gw_664, gw_665, gw_666, gw_667, gw_668, gw_669, gw_670, gw_671, gw_672, gw_673, gw_674, gw_675, gw_676, gw_677, gw_678, gw_679, gw_682, gw_683, gw_684, gw_686, gw_687, gw_689, gw_691, gw_692, gw_695, gw_696, gw_700, gw_701]
def gc_10 : List Cond := [gw_704, gw_705, gw_706, gw_708, gw_709, gw_710, gw_712, gw_713, gw_714, gw_716, gw_717, gw_718, gw_720, gw_721, gw_722, gw_724, gw_725, gw_726, gw_728, gw_729, gw_730, gw_732, gw_733, gw_734, gw_736, gw_737, gw_738, gw_740, gw_741, gw_742, gw_744, gw_745, gw_746, gw_748, gw_749, gw_752, gw_753, gw_754, gw_755, gw_756, gw_757, gw_760, gw_761, gw_762, gw_764, gw_765, gw_766, gw_768]
def gc_11 : List Cond := [gw_769, gw_772, gw_774, gw_775, gw_776, gw_777, gw_778, gw_779, gw_780, gw_781, gw_784, gw_785, gw_786, gw_787, gw_788, gw_789, gw_790, gw_791, gw_792, gw_795, gw_796, gw_797, gw_798, gw_799, gw_800, gw_801, gw_802, gw_803, gw_804, gw_805, gw_806, gw_808, gw_809, gw_810, gw_811, gw_812, gw_813, gw_814, gw_815, gw_816, gw_817, gw_818, gw_819, gw_820, gw_821, gw_822, gw_823, gw_824]
def gc_12 : List Cond := [gw_825, gw_826, gw_827, gw_828, gw_829, gw_830, gw_831, gw_832, gw_833, gw_834, gw_835, gw_836, gw_837, gw_838, gw_839, gw_840, gw_841, gw_842, gw_843, gw_844, gw_845, gw_846, gw_847, gw_848, gw_849, gw_850, gw_852, gw_854, gw_856, gw_858, gw_860, gw_862, gw_864, gw_866, gw_868, gw_870, gw_872, gw_874, gw_876, gw_878, gw_880, gw_882, gw_884, gw_886, gw_888, gw_890, gw_892, gw_894]
def gc_13 : List Cond := [gw_896, gw_898, gw_900, gw_902, gw_904, gw_906, gw_908, gw_910, gw_912, gw_914, gw_916, gw_918, gw_920, gw_923, gw_924, gw_925, gw_926, gw_927, gw_928, gw_929, gw_930, gw_931, gw_932, gw_933, gw_934, gw_935, gw_936, gw_937, gw_938, gw_939, gw_940, gw_941, gw_943, gw_944, gw_945, gw_946, gw_947, gw_948, gw_949, gw_950, gw_951, gw_952, gw_953, gw_954, gw_955, gw_956, gw_957, gw_958]
def gc_14 : List Cond := [gw_959, gw_960, gw_961, gw_962, gw_963, gw_964, gw_965, gw_966, gw_967, gw_968, gw_969, gw_970, gw_971, gw_972, gw_973, gw_974, gw_975, gw_976, gw_977, gw_978, gw_979, gw_980, gw_981, gw_982, gw_983, gw_985, gw_986, gw_987, gw_988, gw_989, gw_990, gw_991, gw_992, gw_993, gw_995, gw_996, gw_997, gw_999, gw_1000, gw_1001, gw_1003, gw_1004, gw_1005, gw_1007, gw_1008, gw_1009, gw_1011, gw_1012]
def gc_15 : List Cond := [gw_1013, gw_1015, gw_1016, gw_1017, gw_1019, gw_1020, gw_1021, gw_1023, gw_1024, gw_1025, gw_1026, gw_1027, gw_1028, gw_1029, gw_1030, gw_1032, gw_1033, gw_1034, gw_1036, gw_1037, gw_1038, gw_1040, gw_1041, gw_1042, gw_1044, gw_1045, gw_1046, gw_1048, gw_1049, gw_1050, gw_1051, gw_1052, gw_1053, gw_1054, gw_1055, gw_1056, gw_1057, gw_1058, gw_1059, gw_1060, gw_1061, gw_1062, gw_1064, gw_1065, gw_1066, gw_1068, gw_1069, gw_1070]
def gc_16 : List Cond := [gw_1072, gw_1073, gw_1074, gw_1075, gw_1076, gw_1077, gw_1078, gw_1080, gw_1081, gw_1082, gw_1083, gw_1084, gw_1085, gw_1086, gw_1087, gw_1088, gw_1089, gw_1090, gw_1091, gw_1092, gw_1093, gw_1094, gw_1095, gw_1096, gw_1097, gw_1098, gw_1099, gw_1101, gw_1102, gw_1103, gw_1104, gw_1105, gw_1106, gw_1107, gw_1108, gw_1109, gw_1110, gw_1111, gw_1112, gw_1113, gw_1114, gw_1115, gw_1116, gw_1117, gw_1118, gp_0, gp_1, gp_2]
def gc_17 : List Cond := [gp_3, gp_4, gp_5, gp_6, gp_7, gp_8, gp_9, gp_10, gp_11, gp_12, gp_13, gp_14, gp_15, gp_16, gp_17, gp_18, gp_19, gp_20, gp_21, gp_22, gp_23, gp_24, gp_25, gp_26, gp_27, gp_28, gp_29, gp_30, gp_31, gp_32, gp_33, gp_34, gp_35, gp_36, gp_37, gp_38, gp_39, gp_40, gp_41, gp_42, gp_43, gp_44, gp_45, gp_46, gp_47, gp_48, gp_49, gp_50]
def gc_18 : List Cond := [gp_51, gp_52, gp_53, gp_54, gp_55, gp_56, gp_57, gp_58, gp_59, gp_60, gp_61, gp_62, gp_63, gp_64, gp_65, gp_66, gp_67, gp_68, gp_69, gp_70, gp_71, gp_72, gp_73, gp_74, gp_75, gp_76, gp_77, gp_78, gp_79, gp_80, gp_81, gp_82, gp_83, gp_84, gp_85, gp_86, gp_87, gp_88, gp_89, gp_90, gp_91, gp_92, gp_93, gp_94, gp_95, gp_96]
def ri_gT : List Cond := gc_0 ++ (gc_1 ++ (gc_2 ++ (gc_3 ++ (gc_4 ++ (gc_5 ++ (gc_6 ++ (gc_7 ++ (gc_8 ++ (gc_9 ++ (gc_10 ++ (gc_11 ++ (gc_12 ++ (gc_13 ++ (gc_14 ++ (gc_15 ++ (gc_16 ++ (gc_17 ++ (gc_18))))))))))))))))))
theorem gi_0 : ∀ w ∈ gc_0, w ∈ ri_gT := fun _ h => List.mem_append_left _ h
theorem gi_1 : ∀ w ∈ gc_1, w ∈ ri_gT := fun _ h => List.mem_append_right _ (List.mem_append_left _ h)
theorem gi_2 : ∀ w ∈ gc_2, w ∈ ri_gT := fun _ h => List.mem_append_right _ (List.mem_append_right _ (List.mem_append_left _ h))
theorem gi_3 : ∀ w ∈ gc_3, w ∈ ri_gT := fun _ h => List.mem_append_right _ (List.mem_append_right _ (List.mem_append_right _ (List.mem_append_left _ h)))
theorem gi_4 : ∀ w ∈ gc_4, w ∈ ri_gT := fun _ h => List.mem_append_right _ (List.mem_append_right _ (List.mem_append_right _ (List.mem_append_right _ (List.mem_append_left _ h))))
theorem gi_5 : ∀ w ∈ gc_5, w ∈ ri_gT := fun _ h => List.mem_append_right _ (List.mem_append_right _ (List.mem_append_right _ (List.mem_append_right _ (List.mem_append_right _ (List.mem_append_left _ h)))))
theorem gi_6 : ∀ w ∈ gc_6, w ∈ ri_gT := fun _ h => List.mem_append_right _ (List.mem_append_right _ (List.mem_append_right _ (List.mem_append_right _ (List.mem_append_right _ (List.mem_append_right _ (List.mem_append_left _ h))))))
theorem gi_7 : ∀ w ∈ gc_7, w ∈ ri_gT := fun _ h => List.mem_append_right _ (List.mem_append_right _ (List.mem_append_right _ (List.mem_append_right _ (List.mem_append_right _ (List.mem_append_right _ (List.mem_append_right _ (List.mem_append_left _ h)))))))
theorem gi_8 : ∀ w ∈ gc_8, w ∈ ri_gT := fun _ h => List.mem_append_right _ (List.mem_append_right _ (List.mem_append_right _ (List.mem_append_right _ (List.mem_append_right _ (List.mem_append_right _ (List.mem_append_right _ (List.mem_append_right _ (List.mem_append_left _ h))))))))
theorem gi_9 : ∀ w ∈ gc_9, w ∈ ri_gT := fun _ h => List.mem_append_right _ (List.mem_append_right _ (List.mem_append_right _ (List.mem_append_right _ (List.mem_append_right _ (List.mem_append_right _ (List.mem_append_right _ (List.mem_append_right _ (List.mem_append_right _ (List.mem_append_left _ h)))))))))
theorem gi_10 : ∀ w ∈ gc_10, w ∈ ri_gT := fun _ h => List.mem_append_right _ (List.mem_append_right _ (List.mem_append_right _ (List.mem_append_right _ (List.mem_append_right _ (List.mem_append_right _ (List.mem_append_right _ (List.mem_append_right _ (List.mem_append_right _ (List.mem_append_right _ (List.mem_append_left _ h))))))))))
theorem gi_11 : ∀ w ∈ gc_11, w ∈ ri_gT := fun _ h => List.mem_append_right _ (List.mem_append_right _ (List.mem_append_right _ (List.mem_append_right _ (List.mem_append_right _ (List.mem_append_right _ (List.mem_append_right _ (List.mem_append_right _ (List.mem_append_right _ (List.mem_append_right _ (List.mem_append_right _ (List.mem_append_left _ h)))))))))))
theorem gi_12 : ∀ w ∈ gc_12, w ∈ ri_gT := fun _ h => List.mem_append_right _ (List.mem_append_right _ (List.mem_append_right _ (List.mem_append_right _ (List.mem_append_right _ (List.mem_append_right _ (List.mem_append_right _ (List.mem_append_right _ (List.mem_append_right _ (List.mem_append_right _ (List.mem_append_right _ (List.mem_append_right _ (List.mem_append_left _ h))))))))))))
theorem gi_13 : ∀ w ∈ gc_13, w ∈ ri_gT := fun _ h => List.mem_append_right _ (List.mem_append_right _ (List.mem_append_right _ (List.mem_append_right _ (List.mem_append_right _ (List.mem_append_right _ (List.mem_append_right _ (List.mem_append_right _ (List.mem_append_right _ (List.mem_append_right _ (List.mem_append_right _ (List.mem_append_right _ (List.mem_append_right _ (List.mem_append_left _ h)))))))))))))
theorem gi_14 : ∀ w ∈ gc_14, w ∈ ri_gT := fun _ h => List.mem_append_right _ (List.mem_append_right _ (List.mem_append_right _ (List.mem_append_right _ (List.mem_append_right _ (List.mem_append_right _ (List.mem_append_right _ (List.mem_append_right _ (List.mem_append_right _ (List.mem_append_right _ (List.mem_append_right _ (List.mem_append_right _ (List.mem_append_right _ (List.mem_append_right _ (List.mem_append_left _ h))))))))))))))
theorem gi_15 : ∀ w ∈ gc_15, w ∈ ri_gT := fun _ h => List.mem_append_right _ (List.mem_append_right _ (List.mem_append_right _ (List.mem_append_right _ (List.mem_append_right _ (List.mem_append_right _ (List.mem_append_right _ (List.mem_append_right _ (List.mem_append_right _ (List.mem_append_right _ (List.mem_append_right _ (List.mem_append_right _ (List.mem_append_right _ (List.mem_append_right _ (List.mem_append_right _ (List.mem_append_left _ h)))))))))))))))
theorem gi_16 : ∀ w ∈ gc_16, w ∈ ri_gT := fun _ h => List.mem_append_right _ (List.mem_append_right _ (List.mem_append_right _ (List.mem_append_right _ (List.mem_append_right _ (List.mem_append_right _ (List.mem_append_right _ (List.mem_append_right _ (List.mem_append_right _ (List.mem_append_right _ (List.mem_append_right _ (List.mem_append_right _ (List.mem_append_right _ (List.mem_append_right _ (List.mem_append_right _ (List.mem_append_right _ (List.mem_append_left _ h))))))))))))))))
theorem gi_17 : ∀ w ∈ gc_17, w ∈ ri_gT := fun _ h => List.mem_append_right _ (List.mem_append_right _ (List.mem_append_right _ (List.mem_append_right _ (List.mem_append_right _ (List.mem_append_right _ (List.mem_append_right _ (List.mem_append_right _ (List.mem_append_right _ (List.mem_append_right _ (List.mem_append_right _ (List.mem_append_right _ (List.mem_append_right _ (List.mem_append_right _ (List.mem_append_right _ (List.mem_append_right _ (List.mem_append_right _ (List.mem_append_left _ h)))))))))))))))))
theorem gi_18 : ∀ w ∈ gc_18, w ∈ ri_gT := fun _ h => List.mem_append_right _ (List.mem_append_right _ (List.mem_append_right _ (List.mem_append_right _ (List.mem_append_right _ (List.mem_append_right _ (List.mem_append_right _ (List.mem_append_right _ (List.mem_append_right _ (List.mem_append_right _ (List.mem_append_right _ (List.mem_append_right _ (List.mem_append_right _ (List.mem_append_right _ (List.mem_append_right _ (List.mem_append_right _ (List.mem_append_right _ (List.mem_append_right _ (h))))))))))))))))))
theorem mgw_0 : gw_0 ∈ ri_gT := gi_0 _ (List.mem_of_getElem? (i := 0) rfl)
theorem mgw_1 : gw_1 ∈ ri_gT := gi_0 _ (List.mem_of_getElem? (i := 1) rfl)
theorem mgw_2 : gw_2 ∈ ri_gT := gi_0 _ (List.mem_of_getElem? (i := 2) rfl)
theorem mgw_3 : gw_3 ∈ ri_gT := gi_0 _ (List.mem_of_getElem? (i := 3) rfl)
theorem mgw_4 : gw_4 ∈ ri_gT := gi_0 _ (List.mem_of_getElem? (i := 4) rfl)
theorem mgw_5 : gw_5 ∈ ri_gT := gi_0 _ (List.mem_of_getElem? (i := 5) rfl)
theorem mgw_6 : gw_6 ∈ ri_gT := gi_0 _ (List.mem_of_getElem? (i := 6) rfl)
theorem mgw_7 : gw_7 ∈ ri_gT := gi_0 _ (List.mem_of_getElem? (i := 7) rfl)
theorem mgw_8 : gw_8 ∈ ri_gT := gi_0 _ (List.mem_of_getElem? (i := 8) rfl)
theorem mgw_9 : gw_9 ∈ ri_gT := gi_0 _ (List.mem_of_getElem? (i := 9) rfl)
theorem mgw_10 : gw_10 ∈ ri_gT := gi_0 _ (List.mem_of_getElem? (i := 10) rfl)
theorem mgw_11 : gw_11 ∈ ri_gT := gi_0 _ (List.mem_of_getElem? (i := 11) rfl)
theorem mgw_12 : gw_12 ∈ ri_gT := gi_0 _ (List.mem_of_getElem? (i := 12) rfl)
theorem mgw_13 : gw_13 ∈ ri_gT := gi_0 _ (List.mem_of_getElem? (i := 13) rfl)
theorem mgw_14 : gw_14 ∈ ri_gT := gi_0 _ (List.mem_of_getElem? (i := 14) rfl)
theorem mgw_15 : gw_15 ∈ ri_gT := gi_0 _ (List.mem_of_getElem? (i := 15) rfl)
theorem mgw_16 : gw_16 ∈ ri_gT := gi_0 _ (List.mem_of_getElem? (i := 16) rfl)
theorem mgw_17 : gw_17 ∈ ri_gT := gi_0 _ (List.mem_of_getElem? (i := 17) rfl)
theorem mgw_18 : gw_18 ∈ ri_gT := gi_0 _ (List.mem_of_getElem? (i := 18) rfl)
theorem mgw_19 : gw_19 ∈ ri_gT := gi_0 _ (List.mem_of_getElem? (i := 19) rfl)
theorem mgw_20 : gw_20 ∈ ri_gT := gi_0 _ (List.mem_of_getElem? (i := 20) rfl)
theorem mgw_21 : gw_21 ∈ ri_gT := gi_0 _ (List.mem_of_getElem? (i := 21) rfl)
theorem mgw_22 : gw_22 ∈ ri_gT := gi_0 _ (List.mem_of_getElem? (i := 22) rfl)
theorem mgw_23 : gw_23 ∈ ri_gT := gi_0 _ (List.mem_of_getElem? (i := 23) rfl)
theorem mgw_24 : gw_24 ∈ ri_gT := gi_0 _ (List.mem_of_getElem? (i := 24) rfl)
theorem mgw_25 : gw_25 ∈ ri_gT := gi_0 _ (List.mem_of_getElem? (i := 25) rfl)
theorem mgw_27 : gw_27 ∈ ri_gT := gi_0 _ (List.mem_of_getElem? (i := 26) rfl)
theorem mgw_28 : gw_28 ∈ ri_gT := gi_0 _ (List.mem_of_getElem? (i := 27) rfl)
theorem mgw_29 : gw_29 ∈ ri_gT := gi_0 _ (List.mem_of_getElem? (i := 28) rfl)
theorem mgw_30 : gw_30 ∈ ri_gT := gi_0 _ (List.mem_of_getElem? (i := 29) rfl)
theorem mgw_32 : gw_32 ∈ ri_gT := gi_0 _ (List.mem_of_getElem? (i := 30) rfl)
theorem mgw_33 : gw_33 ∈ ri_gT := gi_0 _ (List.mem_of_getElem? (i := 31) rfl)
theorem mgw_34 : gw_34 ∈ ri_gT := gi_0 _ (List.mem_of_getElem? (i := 32) rfl)
theorem mgw_39 : gw_39 ∈ ri_gT := gi_0 _ (List.mem_of_getElem? (i := 33) rfl)
theorem mgw_41 : gw_41 ∈ ri_gT := gi_0 _ (List.mem_of_getElem? (i := 34) rfl)
theorem mgw_44 : gw_44 ∈ ri_gT := gi_0 _ (List.mem_of_getElem? (i := 35) rfl)
theorem mgw_46 : gw_46 ∈ ri_gT := gi_0 _ (List.mem_of_getElem? (i := 36) rfl)
theorem mgw_49 : gw_49 ∈ ri_gT := gi_0 _ (List.mem_of_getElem? (i := 37) rfl)
theorem mgw_52 : gw_52 ∈ ri_gT := gi_0 _ (List.mem_of_getElem? (i := 38) rfl)
theorem mgw_55 : gw_55 ∈ ri_gT := gi_0 _ (List.mem_of_getElem? (i := 39) rfl)
theorem mgw_57 : gw_57 ∈ ri_gT := gi_0 _ (List.mem_of_getElem? (i := 40) rfl)
theorem mgw_59 : gw_59 ∈ ri_gT := gi_0 _ (List.mem_of_getElem? (i := 41) rfl)
theorem mgw_61 : gw_61 ∈ ri_gT := gi_0 _ (List.mem_of_getElem? (i := 42) rfl)
theorem mgw_63 : gw_63 ∈ ri_gT := gi_0 _ (List.mem_of_getElem? (i := 43) rfl)
theorem mgw_65 : gw_65 ∈ ri_gT := gi_0 _ (List.mem_of_getElem? (i := 44) rfl)
theorem mgw_67 : gw_67 ∈ ri_gT := gi_0 _ (List.mem_of_getElem? (i := 45) rfl)
theorem mgw_69 : gw_69 ∈ ri_gT := gi_0 _ (List.mem_of_getElem? (i := 46) rfl)
theorem mgw_71 : gw_71 ∈ ri_gT := gi_0 _ (List.mem_of_getElem? (i := 47) rfl)
theorem mgw_73 : gw_73 ∈ ri_gT := gi_1 _ (List.mem_of_getElem? (i := 0) rfl)
theorem mgw_75 : gw_75 ∈ ri_gT := gi_1 _ (List.mem_of_getElem? (i := 1) rfl)
theorem mgw_78 : gw_78 ∈ ri_gT := gi_1 _ (List.mem_of_getElem? (i := 2) rfl)
theorem mgw_79 : gw_79 ∈ ri_gT := gi_1 _ (List.mem_of_getElem? (i := 3) rfl)
theorem mgw_80 : gw_80 ∈ ri_gT := gi_1 _ (List.mem_of_getElem? (i := 4) rfl)
theorem mgw_81 : gw_81 ∈ ri_gT := gi_1 _ (List.mem_of_getElem? (i := 5) rfl)
theorem mgw_83 : gw_83 ∈ ri_gT := gi_1 _ (List.mem_of_getElem? (i := 6) rfl)
theorem mgw_84 : gw_84 ∈ ri_gT := gi_1 _ (List.mem_of_getElem? (i := 7) rfl)
theorem mgw_85 : gw_85 ∈ ri_gT := gi_1 _ (List.mem_of_getElem? (i := 8) rfl)
theorem mgw_86 : gw_86 ∈ ri_gT := gi_1 _ (List.mem_of_getElem? (i := 9) rfl)
theorem mgw_87 : gw_87 ∈ ri_gT := gi_1 _ (List.mem_of_getElem? (i := 10) rfl)
theorem mgw_88 : gw_88 ∈ ri_gT := gi_1 _ (List.mem_of_getElem? (i := 11) rfl)
theorem mgw_89 : gw_89 ∈ ri_gT := gi_1 _ (List.mem_of_getElem? (i := 12) rfl)
theorem mgw_91 : gw_91 ∈ ri_gT := gi_1 _ (List.mem_of_getElem? (i := 13) rfl)
theorem mgw_92 : gw_92 ∈ ri_gT := gi_1 _ (List.mem_of_getElem? (i := 14) rfl)
theorem mgw_93 : gw_93 ∈ ri_gT := gi_1 _ (List.mem_of_getElem? (i := 15) rfl)
theorem mgw_94 : gw_94 ∈ ri_gT := gi_1 _ (List.mem_of_getElem? (i := 16) rfl)
theorem mgw_95 : gw_95 ∈ ri_gT := gi_1 _ (List.mem_of_getElem? (i := 17) rfl)
theorem mgw_96 : gw_96 ∈ ri_gT := gi_1 _ (List.mem_of_getElem? (i := 18) rfl)
theorem mgw_97 : gw_97 ∈ ri_gT := gi_1 _ (List.mem_of_getElem? (i := 19) rfl)
theorem mgw_98 : gw_98 ∈ ri_gT := gi_1 _ (List.mem_of_getElem? (i := 20) rfl)
theorem mgw_99 : gw_99 ∈ ri_gT := gi_1 _ (List.mem_of_getElem? (i := 21) rfl)
theorem mgw_100 : gw_100 ∈ ri_gT := gi_1 _ (List.mem_of_getElem? (i := 22) rfl)
theorem mgw_102 : gw_102 ∈ ri_gT := gi_1 _ (List.mem_of_getElem? (i := 23) rfl)
theorem mgw_103 : gw_103 ∈ ri_gT := gi_1 _ (List.mem_of_getElem? (i := 24) rfl)
theorem mgw_104 : gw_104 ∈ ri_gT := gi_1 _ (List.mem_of_getElem? (i := 25) rfl)
theorem mgw_105 : gw_105 ∈ ri_gT := gi_1 _ (List.mem_of_getElem? (i := 26) rfl)
theorem mgw_106 : gw_106 ∈ ri_gT := gi_1 _ (List.mem_of_getElem? (i := 27) rfl)
theorem mgw_107 : gw_107 ∈ ri_gT := gi_1 _ (List.mem_of_getElem? (i := 28) rfl)
theorem mgw_109 : gw_109 ∈ ri_gT := gi_1 _ (List.mem_of_getElem? (i := 29) rfl)
theorem mgw_110 : gw_110 ∈ ri_gT := gi_1 _ (List.mem_of_getElem? (i := 30) rfl)
theorem mgw_111 : gw_111 ∈ ri_gT := gi_1 _ (List.mem_of_getElem? (i := 31) rfl)
theorem mgw_113 : gw_113 ∈ ri_gT := gi_1 _ (List.mem_of_getElem? (i := 32) rfl)
theorem mgw_115 : gw_115 ∈ ri_gT := gi_1 _ (List.mem_of_getElem? (i := 33) rfl)
theorem mgw_117 : gw_117 ∈ ri_gT := gi_1 _ (List.mem_of_getElem? (i := 34) rfl)
theorem mgw_119 : gw_119 ∈ ri_gT := gi_1 _ (List.mem_of_getElem? (i := 35) rfl)
theorem mgw_122 : gw_122 ∈ ri_gT := gi_1 _ (List.mem_of_getElem? (i := 36) rfl)
theorem mgw_123 : gw_123 ∈ ri_gT := gi_1 _ (List.mem_of_getElem? (i := 37) rfl)
theorem mgw_124 : gw_124 ∈ ri_gT := gi_1 _ (List.mem_of_getElem? (i := 38) rfl)
theorem mgw_125 : gw_125 ∈ ri_gT := gi_1 _ (List.mem_of_getElem? (i := 39) rfl)
theorem mgw_126 : gw_126 ∈ ri_gT := gi_1 _ (List.mem_of_getElem? (i := 40) rfl)
theorem mgw_128 : gw_128 ∈ ri_gT := gi_1 _ (List.mem_of_getElem? (i := 41) rfl)
theorem mgw_130 : gw_130 ∈ ri_gT := gi_1 _ (List.mem_of_getElem? (i := 42) rfl)
theorem mgw_132 : gw_132 ∈ ri_gT := gi_1 _ (List.mem_of_getElem? (i := 43) rfl)
theorem mgw_134 : gw_134 ∈ ri_gT := gi_1 _ (List.mem_of_getElem? (i := 44) rfl)
theorem mgw_136 : gw_136 ∈ ri_gT := gi_1 _ (List.mem_of_getElem? (i := 45) rfl)
theorem mgw_138 : gw_138 ∈ ri_gT := gi_1 _ (List.mem_of_getElem? (i := 46) rfl)
theorem mgw_141 : gw_141 ∈ ri_gT := gi_1 _ (List.mem_of_getElem? (i := 47) rfl)
theorem mgw_142 : gw_142 ∈ ri_gT := gi_2 _ (List.mem_of_getElem? (i := 0) rfl)
theorem mgw_144 : gw_144 ∈ ri_gT := gi_2 _ (List.mem_of_getElem? (i := 1) rfl)
theorem mgw_145 : gw_145 ∈ ri_gT := gi_2 _ (List.mem_of_getElem? (i := 2) rfl)
theorem mgw_146 : gw_146 ∈ ri_gT := gi_2 _ (List.mem_of_getElem? (i := 3) rfl)
theorem mgw_147 : gw_147 ∈ ri_gT := gi_2 _ (List.mem_of_getElem? (i := 4) rfl)
theorem mgw_148 : gw_148 ∈ ri_gT := gi_2 _ (List.mem_of_getElem? (i := 5) rfl)
theorem mgw_149 : gw_149 ∈ ri_gT := gi_2 _ (List.mem_of_getElem? (i := 6) rfl)
theorem mgw_150 : gw_150 ∈ ri_gT := gi_2 _ (List.mem_of_getElem? (i := 7) rfl)
theorem mgw_151 : gw_151 ∈ ri_gT := gi_2 _ (List.mem_of_getElem? (i := 8) rfl)
theorem mgw_152 : gw_152 ∈ ri_gT := gi_2 _ (List.mem_of_getElem? (i := 9) rfl)
theorem mgw_154 : gw_154 ∈ ri_gT := gi_2 _ (List.mem_of_getElem? (i := 10) rfl)
theorem mgw_156 : gw_156 ∈ ri_gT := gi_2 _ (List.mem_of_getElem? (i := 11) rfl)
theorem mgw_158 : gw_158 ∈ ri_gT := gi_2 _ (List.mem_of_getElem? (i := 12) rfl)
theorem mgw_160 : gw_160 ∈ ri_gT := gi_2 _ (List.mem_of_getElem? (i := 13) rfl)
theorem mgw_163 : gw_163 ∈ ri_gT := gi_2 _ (List.mem_of_getElem? (i := 14) rfl)
theorem mgw_164 : gw_164 ∈ ri_gT := gi_2 _ (List.mem_of_getElem? (i := 15) rfl)
theorem mgw_166 : gw_166 ∈ ri_gT := gi_2 _ (List.mem_of_getElem? (i := 16) rfl)
theorem mgw_167 : gw_167 ∈ ri_gT := gi_2 _ (List.mem_of_getElem? (i := 17) rfl)
theorem mgw_168 : gw_168 ∈ ri_gT := gi_2 _ (List.mem_of_getElem? (i := 18) rfl)
theorem mgw_169 : gw_169 ∈ ri_gT := gi_2 _ (List.mem_of_getElem? (i := 19) rfl)
theorem mgw_170 : gw_170 ∈ ri_gT := gi_2 _ (List.mem_of_getElem? (i := 20) rfl)
theorem mgw_171 : gw_171 ∈ ri_gT := gi_2 _ (List.mem_of_getElem? (i := 21) rfl)
theorem mgw_172 : gw_172 ∈ ri_gT := gi_2 _ (List.mem_of_getElem? (i := 22) rfl)
theorem mgw_173 : gw_173 ∈ ri_gT := gi_2 _ (List.mem_of_getElem? (i := 23) rfl)
theorem mgw_174 : gw_174 ∈ ri_gT := gi_2 _ (List.mem_of_getElem? (i := 24) rfl)
theorem mgw_176 : gw_176 ∈ ri_gT := gi_2 _ (List.mem_of_getElem? (i := 25) rfl)
theorem mgw_178 : gw_178 ∈ ri_gT := gi_2 _ (List.mem_of_getElem? (i := 26) rfl)
theorem mgw_180 : gw_180 ∈ ri_gT := gi_2 _ (List.mem_of_getElem? (i := 27) rfl)
theorem mgw_182 : gw_182 ∈ ri_gT := gi_2 _ (List.mem_of_getElem? (i := 28) rfl)
theorem mgw_185 : gw_185 ∈ ri_gT := gi_2 _ (List.mem_of_getElem? (i := 29) rfl)
theorem mgw_186 : gw_186 ∈ ri_gT := gi_2 _ (List.mem_of_getElem? (i := 30) rfl)
theorem mgw_188 : gw_188 ∈ ri_gT := gi_2 _ (List.mem_of_getElem? (i := 31) rfl)
theorem mgw_189 : gw_189 ∈ ri_gT := gi_2 _ (List.mem_of_getElem? (i := 32) rfl)
theorem mgw_190 : gw_190 ∈ ri_gT := gi_2 _ (List.mem_of_getElem? (i := 33) rfl)
theorem mgw_191 : gw_191 ∈ ri_gT := gi_2 _ (List.mem_of_getElem? (i := 34) rfl)
theorem mgw_193 : gw_193 ∈ ri_gT := gi_2 _ (List.mem_of_getElem? (i := 35) rfl)
theorem mgw_195 : gw_195 ∈ ri_gT := gi_2 _ (List.mem_of_getElem? (i := 36) rfl)
theorem mgw_196 : gw_196 ∈ ri_gT := gi_2 _ (List.mem_of_getElem? (i := 37) rfl)
theorem mgw_197 : gw_197 ∈ ri_gT := gi_2 _ (List.mem_of_getElem? (i := 38) rfl)
theorem mgw_198 : gw_198 ∈ ri_gT := gi_2 _ (List.mem_of_getElem? (i := 39) rfl)
theorem mgw_203 : gw_203 ∈ ri_gT := gi_2 _ (List.mem_of_getElem? (i := 40) rfl)
theorem mgw_206 : gw_206 ∈ ri_gT := gi_2 _ (List.mem_of_getElem? (i := 41) rfl)
theorem mgw_208 : gw_208 ∈ ri_gT := gi_2 _ (List.mem_of_getElem? (i := 42) rfl)
theorem mgw_210 : gw_210 ∈ ri_gT := gi_2 _ (List.mem_of_getElem? (i := 43) rfl)
theorem mgw_212 : gw_212 ∈ ri_gT := gi_2 _ (List.mem_of_getElem? (i := 44) rfl)
theorem mgw_215 : gw_215 ∈ ri_gT := gi_2 _ (List.mem_of_getElem? (i := 45) rfl)
theorem mgw_216 : gw_216 ∈ ri_gT := gi_2 _ (List.mem_of_getElem? (i := 46) rfl)
theorem mgw_217 : gw_217 ∈ ri_gT := gi_2 _ (List.mem_of_getElem? (i := 47) rfl)
theorem mgw_221 : gw_221 ∈ ri_gT := gi_3 _ (List.mem_of_getElem? (i := 0) rfl)
theorem mgw_222 : gw_222 ∈ ri_gT := gi_3 _ (List.mem_of_getElem? (i := 1) rfl)
theorem mgw_224 : gw_224 ∈ ri_gT := gi_3 _ (List.mem_of_getElem? (i := 2) rfl)
theorem mgw_226 : gw_226 ∈ ri_gT := gi_3 _ (List.mem_of_getElem? (i := 3) rfl)
theorem mgw_228 : gw_228 ∈ ri_gT := gi_3 _ (List.mem_of_getElem? (i := 4) rfl)
theorem mgw_231 : gw_231 ∈ ri_gT := gi_3 _ (List.mem_of_getElem? (i := 5) rfl)
theorem mgw_232 : gw_232 ∈ ri_gT := gi_3 _ (List.mem_of_getElem? (i := 6) rfl)
theorem mgw_234 : gw_234 ∈ ri_gT := gi_3 _ (List.mem_of_getElem? (i := 7) rfl)
theorem mgw_235 : gw_235 ∈ ri_gT := gi_3 _ (List.mem_of_getElem? (i := 8) rfl)
theorem mgw_236 : gw_236 ∈ ri_gT := gi_3 _ (List.mem_of_getElem? (i := 9) rfl)
theorem mgw_237 : gw_237 ∈ ri_gT := gi_3 _ (List.mem_of_getElem? (i := 10) rfl)
theorem mgw_239 : gw_239 ∈ ri_gT := gi_3 _ (List.mem_of_getElem? (i := 11) rfl)
theorem mgw_240 : gw_240 ∈ ri_gT := gi_3 _ (List.mem_of_getElem? (i := 12) rfl)
theorem mgw_241 : gw_241 ∈ ri_gT := gi_3 _ (List.mem_of_getElem? (i := 13) rfl)
theorem mgw_242 : gw_242 ∈ ri_gT := gi_3 _ (List.mem_of_getElem? (i := 14) rfl)
theorem mgw_243 : gw_243 ∈ ri_gT := gi_3 _ (List.mem_of_getElem? (i := 15) rfl)
theorem mgw_244 : gw_244 ∈ ri_gT := gi_3 _ (List.mem_of_getElem? (i := 16) rfl)
theorem mgw_246 : gw_246 ∈ ri_gT := gi_3 _ (List.mem_of_getElem? (i := 17) rfl)
theorem mgw_248 : gw_248 ∈ ri_gT := gi_3 _ (List.mem_of_getElem? (i := 18) rfl)
theorem mgw_250 : gw_250 ∈ ri_gT := gi_3 _ (List.mem_of_getElem? (i := 19) rfl)
theorem mgw_252 : gw_252 ∈ ri_gT := gi_3 _ (List.mem_of_getElem? (i := 20) rfl)
theorem mgw_255 : gw_255 ∈ ri_gT := gi_3 _ (List.mem_of_getElem? (i := 21) rfl)
theorem mgw_256 : gw_256 ∈ ri_gT := gi_3 _ (List.mem_of_getElem? (i := 22) rfl)
theorem mgw_257 : gw_257 ∈ ri_gT := gi_3 _ (List.mem_of_getElem? (i := 23) rfl)
theorem mgw_258 : gw_258 ∈ ri_gT := gi_3 _ (List.mem_of_getElem? (i := 24) rfl)
theorem mgw_260 : gw_260 ∈ ri_gT := gi_3 _ (List.mem_of_getElem? (i := 25) rfl)
theorem mgw_261 : gw_261 ∈ ri_gT := gi_3 _ (List.mem_of_getElem? (i := 26) rfl)
theorem mgw_262 : gw_262 ∈ ri_gT := gi_3 _ (List.mem_of_getElem? (i := 27) rfl)
theorem mgw_263 : gw_263 ∈ ri_gT := gi_3 _ (List.mem_of_getElem? (i := 28) rfl)
theorem mgw_264 : gw_264 ∈ ri_gT := gi_3 _ (List.mem_of_getElem? (i := 29) rfl)
theorem mgw_265 : gw_265 ∈ ri_gT := gi_3 _ (List.mem_of_getElem? (i := 30) rfl)
theorem mgw_267 : gw_267 ∈ ri_gT := gi_3 _ (List.mem_of_getElem? (i := 31) rfl)
theorem mgw_271 : gw_271 ∈ ri_gT := gi_3 _ (List.mem_of_getElem? (i := 32) rfl)
theorem mgw_272 : gw_272 ∈ ri_gT := gi_3 _ (List.mem_of_getElem? (i := 33) rfl)
theorem mgw_273 : gw_273 ∈ ri_gT := gi_3 _ (List.mem_of_getElem? (i := 34) rfl)
theorem mgw_274 : gw_274 ∈ ri_gT := gi_3 _ (List.mem_of_getElem? (i := 35) rfl)
theorem mgw_276 : gw_276 ∈ ri_gT := gi_3 _ (List.mem_of_getElem? (i := 36) rfl)
theorem mgw_277 : gw_277 ∈ ri_gT := gi_3 _ (List.mem_of_getElem? (i := 37) rfl)
theorem mgw_278 : gw_278 ∈ ri_gT := gi_3 _ (List.mem_of_getElem? (i := 38) rfl)
theorem mgw_279 : gw_279 ∈ ri_gT := gi_3 _ (List.mem_of_getElem? (i := 39) rfl)
theorem mgw_280 : gw_280 ∈ ri_gT := gi_3 _ (List.mem_of_getElem? (i := 40) rfl)
theorem mgw_281 : gw_281 ∈ ri_gT := gi_3 _ (List.mem_of_getElem? (i := 41) rfl)
theorem mgw_282 : gw_282 ∈ ri_gT := gi_3 _ (List.mem_of_getElem? (i := 42) rfl)
theorem mgw_283 : gw_283 ∈ ri_gT := gi_3 _ (List.mem_of_getElem? (i := 43) rfl)
theorem mgw_284 : gw_284 ∈ ri_gT := gi_3 _ (List.mem_of_getElem? (i := 44) rfl)
theorem mgw_285 : gw_285 ∈ ri_gT := gi_3 _ (List.mem_of_getElem? (i := 45) rfl)
theorem mgw_286 : gw_286 ∈ ri_gT := gi_3 _ (List.mem_of_getElem? (i := 46) rfl)
theorem mgw_287 : gw_287 ∈ ri_gT := gi_3 _ (List.mem_of_getElem? (i := 47) rfl)
theorem mgw_289 : gw_289 ∈ ri_gT := gi_4 _ (List.mem_of_getElem? (i := 0) rfl)
theorem mgw_290 : gw_290 ∈ ri_gT := gi_4 _ (List.mem_of_getElem? (i := 1) rfl)
theorem mgw_292 : gw_292 ∈ ri_gT := gi_4 _ (List.mem_of_getElem? (i := 2) rfl)
theorem mgw_294 : gw_294 ∈ ri_gT := gi_4 _ (List.mem_of_getElem? (i := 3) rfl)
theorem mgw_296 : gw_296 ∈ ri_gT := gi_4 _ (List.mem_of_getElem? (i := 4) rfl)
theorem mgw_298 : gw_298 ∈ ri_gT := gi_4 _ (List.mem_of_getElem? (i := 5) rfl)
theorem mgw_300 : gw_300 ∈ ri_gT := gi_4 _ (List.mem_of_getElem? (i := 6) rfl)
theorem mgw_302 : gw_302 ∈ ri_gT := gi_4 _ (List.mem_of_getElem? (i := 7) rfl)
theorem mgw_304 : gw_304 ∈ ri_gT := gi_4 _ (List.mem_of_getElem? (i := 8) rfl)
theorem mgw_306 : gw_306 ∈ ri_gT := gi_4 _ (List.mem_of_getElem? (i := 9) rfl)
theorem mgw_308 : gw_308 ∈ ri_gT := gi_4 _ (List.mem_of_getElem? (i := 10) rfl)
theorem mgw_310 : gw_310 ∈ ri_gT := gi_4 _ (List.mem_of_getElem? (i := 11) rfl)
theorem mgw_312 : gw_312 ∈ ri_gT := gi_4 _ (List.mem_of_getElem? (i := 12) rfl)
theorem mgw_314 : gw_314 ∈ ri_gT := gi_4 _ (List.mem_of_getElem? (i := 13) rfl)
theorem mgw_316 : gw_316 ∈ ri_gT := gi_4 _ (List.mem_of_getElem? (i := 14) rfl)
theorem mgw_318 : gw_318 ∈ ri_gT := gi_4 _ (List.mem_of_getElem? (i := 15) rfl)
theorem mgw_320 : gw_320 ∈ ri_gT := gi_4 _ (List.mem_of_getElem? (i := 16) rfl)
theorem mgw_322 : gw_322 ∈ ri_gT := gi_4 _ (List.mem_of_getElem? (i := 17) rfl)
theorem mgw_325 : gw_325 ∈ ri_gT := gi_4 _ (List.mem_of_getElem? (i := 18) rfl)
theorem mgw_326 : gw_326 ∈ ri_gT := gi_4 _ (List.mem_of_getElem? (i := 19) rfl)
theorem mgw_327 : gw_327 ∈ ri_gT := gi_4 _ (List.mem_of_getElem? (i := 20) rfl)
theorem mgw_328 : gw_328 ∈ ri_gT := gi_4 _ (List.mem_of_getElem? (i := 21) rfl)
theorem mgw_329 : gw_329 ∈ ri_gT := gi_4 _ (List.mem_of_getElem? (i := 22) rfl)
theorem mgw_330 : gw_330 ∈ ri_gT := gi_4 _ (List.mem_of_getElem? (i := 23) rfl)
theorem mgw_332 : gw_332 ∈ ri_gT := gi_4 _ (List.mem_of_getElem? (i := 24) rfl)
theorem mgw_334 : gw_334 ∈ ri_gT := gi_4 _ (List.mem_of_getElem? (i := 25) rfl)
theorem mgw_336 : gw_336 ∈ ri_gT := gi_4 _ (List.mem_of_getElem? (i := 26) rfl)
theorem mgw_338 : gw_338 ∈ ri_gT := gi_4 _ (List.mem_of_getElem? (i := 27) rfl)
theorem mgw_341 : gw_341 ∈ ri_gT := gi_4 _ (List.mem_of_getElem? (i := 28) rfl)
theorem mgw_342 : gw_342 ∈ ri_gT := gi_4 _ (List.mem_of_getElem? (i := 29) rfl)
theorem mgw_343 : gw_343 ∈ ri_gT := gi_4 _ (List.mem_of_getElem? (i := 30) rfl)
theorem mgw_344 : gw_344 ∈ ri_gT := gi_4 _ (List.mem_of_getElem? (i := 31) rfl)
theorem mgw_346 : gw_346 ∈ ri_gT := gi_4 _ (List.mem_of_getElem? (i := 32) rfl)
theorem mgw_348 : gw_348 ∈ ri_gT := gi_4 _ (List.mem_of_getElem? (i := 33) rfl)
theorem mgw_349 : gw_349 ∈ ri_gT := gi_4 _ (List.mem_of_getElem? (i := 34) rfl)
theorem mgw_352 : gw_352 ∈ ri_gT := gi_4 _ (List.mem_of_getElem? (i := 35) rfl)
theorem mgw_353 : gw_353 ∈ ri_gT := gi_4 _ (List.mem_of_getElem? (i := 36) rfl)
theorem mgw_356 : gw_356 ∈ ri_gT := gi_4 _ (List.mem_of_getElem? (i := 37) rfl)
theorem mgw_357 : gw_357 ∈ ri_gT := gi_4 _ (List.mem_of_getElem? (i := 38) rfl)
theorem mgw_358 : gw_358 ∈ ri_gT := gi_4 _ (List.mem_of_getElem? (i := 39) rfl)
theorem mgw_359 : gw_359 ∈ ri_gT := gi_4 _ (List.mem_of_getElem? (i := 40) rfl)
theorem mgw_360 : gw_360 ∈ ri_gT := gi_4 _ (List.mem_of_getElem? (i := 41) rfl)
theorem mgw_361 : gw_361 ∈ ri_gT := gi_4 _ (List.mem_of_getElem? (i := 42) rfl)
theorem mgw_363 : gw_363 ∈ ri_gT := gi_4 _ (List.mem_of_getElem? (i := 43) rfl)
theorem mgw_364 : gw_364 ∈ ri_gT := gi_4 _ (List.mem_of_getElem? (i := 44) rfl)
theorem mgw_365 : gw_365 ∈ ri_gT := gi_4 _ (List.mem_of_getElem? (i := 45) rfl)
theorem mgw_366 : gw_366 ∈ ri_gT := gi_4 _ (List.mem_of_getElem? (i := 46) rfl)
theorem mgw_367 : gw_367 ∈ ri_gT := gi_4 _ (List.mem_of_getElem? (i := 47) rfl)
theorem mgw_368 : gw_368 ∈ ri_gT := gi_5 _ (List.mem_of_getElem? (i := 0) rfl)
theorem mgw_369 : gw_369 ∈ ri_gT := gi_5 _ (List.mem_of_getElem? (i := 1) rfl)
theorem mgw_370 : gw_370 ∈ ri_gT := gi_5 _ (List.mem_of_getElem? (i := 2) rfl)
theorem mgw_372 : gw_372 ∈ ri_gT := gi_5 _ (List.mem_of_getElem? (i := 3) rfl)
theorem mgw_373 : gw_373 ∈ ri_gT := gi_5 _ (List.mem_of_getElem? (i := 4) rfl)
theorem mgw_374 : gw_374 ∈ ri_gT := gi_5 _ (List.mem_of_getElem? (i := 5) rfl)
theorem mgw_375 : gw_375 ∈ ri_gT := gi_5 _ (List.mem_of_getElem? (i := 6) rfl)
theorem mgw_376 : gw_376 ∈ ri_gT := gi_5 _ (List.mem_of_getElem? (i := 7) rfl)
theorem mgw_377 : gw_377 ∈ ri_gT := gi_5 _ (List.mem_of_getElem? (i := 8) rfl)
theorem mgw_379 : gw_379 ∈ ri_gT := gi_5 _ (List.mem_of_getElem? (i := 9) rfl)
theorem mgw_380 : gw_380 ∈ ri_gT := gi_5 _ (List.mem_of_getElem? (i := 10) rfl)
theorem mgw_381 : gw_381 ∈ ri_gT := gi_5 _ (List.mem_of_getElem? (i := 11) rfl)
theorem mgw_382 : gw_382 ∈ ri_gT := gi_5 _ (List.mem_of_getElem? (i := 12) rfl)
theorem mgw_383 : gw_383 ∈ ri_gT := gi_5 _ (List.mem_of_getElem? (i := 13) rfl)
theorem mgw_384 : gw_384 ∈ ri_gT := gi_5 _ (List.mem_of_getElem? (i := 14) rfl)
theorem mgw_385 : gw_385 ∈ ri_gT := gi_5 _ (List.mem_of_getElem? (i := 15) rfl)
theorem mgw_386 : gw_386 ∈ ri_gT := gi_5 _ (List.mem_of_getElem? (i := 16) rfl)
theorem mgw_387 : gw_387 ∈ ri_gT := gi_5 _ (List.mem_of_getElem? (i := 17) rfl)
theorem mgw_388 : gw_388 ∈ ri_gT := gi_5 _ (List.mem_of_getElem? (i := 18) rfl)
theorem mgw_389 : gw_389 ∈ ri_gT := gi_5 _ (List.mem_of_getElem? (i := 19) rfl)
theorem mgw_390 : gw_390 ∈ ri_gT := gi_5 _ (List.mem_of_getElem? (i := 20) rfl)
theorem mgw_391 : gw_391 ∈ ri_gT := gi_5 _ (List.mem_of_getElem? (i := 21) rfl)
theorem mgw_392 : gw_392 ∈ ri_gT := gi_5 _ (List.mem_of_getElem? (i := 22) rfl)
theorem mgw_393 : gw_393 ∈ ri_gT := gi_5 _ (List.mem_of_getElem? (i := 23) rfl)
theorem mgw_394 : gw_394 ∈ ri_gT := gi_5 _ (List.mem_of_getElem? (i := 24) rfl)
theorem mgw_395 : gw_395 ∈ ri_gT := gi_5 _ (List.mem_of_getElem? (i := 25) rfl)
theorem mgw_396 : gw_396 ∈ ri_gT := gi_5 _ (List.mem_of_getElem? (i := 26) rfl)
theorem mgw_397 : gw_397 ∈ ri_gT := gi_5 _ (List.mem_of_getElem? (i := 27) rfl)
theorem mgw_398 : gw_398 ∈ ri_gT := gi_5 _ (List.mem_of_getElem? (i := 28) rfl)
theorem mgw_399 : gw_399 ∈ ri_gT := gi_5 _ (List.mem_of_getElem? (i := 29) rfl)
theorem mgw_400 : gw_400 ∈ ri_gT := gi_5 _ (List.mem_of_getElem? (i := 30) rfl)
theorem mgw_401 : gw_401 ∈ ri_gT := gi_5 _ (List.mem_of_getElem? (i := 31) rfl)
theorem mgw_402 : gw_402 ∈ ri_gT := gi_5 _ (List.mem_of_getElem? (i := 32) rfl)
theorem mgw_403 : gw_403 ∈ ri_gT := gi_5 _ (List.mem_of_getElem? (i := 33) rfl)
theorem mgw_404 : gw_404 ∈ ri_gT := gi_5 _ (List.mem_of_getElem? (i := 34) rfl)
theorem mgw_405 : gw_405 ∈ ri_gT := gi_5 _ (List.mem_of_getElem? (i := 35) rfl)
theorem mgw_406 : gw_406 ∈ ri_gT := gi_5 _ (List.mem_of_getElem? (i := 36) rfl)
theorem mgw_407 : gw_407 ∈ ri_gT := gi_5 _ (List.mem_of_getElem? (i := 37) rfl)
theorem mgw_408 : gw_408 ∈ ri_gT := gi_5 _ (List.mem_of_getElem? (i := 38) rfl)
theorem mgw_409 : gw_409 ∈ ri_gT := gi_5 _ (List.mem_of_getElem? (i := 39) rfl)
theorem mgw_410 : gw_410 ∈ ri_gT := gi_5 _ (List.mem_of_getElem? (i := 40) rfl)
theorem mgw_411 : gw_411 ∈ ri_gT := gi_5 _ (List.mem_of_getElem? (i := 41) rfl)
theorem mgw_412 : gw_412 ∈ ri_gT := gi_5 _ (List.mem_of_getElem? (i := 42) rfl)
theorem mgw_413 : gw_413 ∈ ri_gT := gi_5 _ (List.mem_of_getElem? (i := 43) rfl)
theorem mgw_414 : gw_414 ∈ ri_gT := gi_5 _ (List.mem_of_getElem? (i := 44) rfl)
theorem mgw_415 : gw_415 ∈ ri_gT := gi_5 _ (List.mem_of_getElem? (i := 45) rfl)
theorem mgw_418 : gw_418 ∈ ri_gT := gi_5 _ (List.mem_of_getElem? (i := 46) rfl)
theorem mgw_419 : gw_419 ∈ ri_gT := gi_5 _ (List.mem_of_getElem? (i := 47) rfl)
theorem mgw_422 : gw_422 ∈ ri_gT := gi_6 _ (List.mem_of_getElem? (i := 0) rfl)
theorem mgw_423 : gw_423 ∈ ri_gT := gi_6 _ (List.mem_of_getElem? (i := 1) rfl)
theorem mgw_424 : gw_424 ∈ ri_gT := gi_6 _ (List.mem_of_getElem? (i := 2) rfl)
theorem mgw_426 : gw_426 ∈ ri_gT := gi_6 _ (List.mem_of_getElem? (i := 3) rfl)
theorem mgw_427 : gw_427 ∈ ri_gT := gi_6 _ (List.mem_of_getElem? (i := 4) rfl)
theorem mgw_430 : gw_430 ∈ ri_gT := gi_6 _ (List.mem_of_getElem? (i := 5) rfl)
theorem mgw_431 : gw_431 ∈ ri_gT := gi_6 _ (List.mem_of_getElem? (i := 6) rfl)
theorem mgw_432 : gw_432 ∈ ri_gT := gi_6 _ (List.mem_of_getElem? (i := 7) rfl)
theorem mgw_433 : gw_433 ∈ ri_gT := gi_6 _ (List.mem_of_getElem? (i := 8) rfl)
theorem mgw_434 : gw_434 ∈ ri_gT := gi_6 _ (List.mem_of_getElem? (i := 9) rfl)
theorem mgw_437 : gw_437 ∈ ri_gT := gi_6 _ (List.mem_of_getElem? (i := 10) rfl)
theorem mgw_438 : gw_438 ∈ ri_gT := gi_6 _ (List.mem_of_getElem? (i := 11) rfl)
theorem mgw_439 : gw_439 ∈ ri_gT := gi_6 _ (List.mem_of_getElem? (i := 12) rfl)
theorem mgw_440 : gw_440 ∈ ri_gT := gi_6 _ (List.mem_of_getElem? (i := 13) rfl)
theorem mgw_441 : gw_441 ∈ ri_gT := gi_6 _ (List.mem_of_getElem? (i := 14) rfl)
theorem mgw_444 : gw_444 ∈ ri_gT := gi_6 _ (List.mem_of_getElem? (i := 15) rfl)
theorem mgw_445 : gw_445 ∈ ri_gT := gi_6 _ (List.mem_of_getElem? (i := 16) rfl)
theorem mgw_446 : gw_446 ∈ ri_gT := gi_6 _ (List.mem_of_getElem? (i := 17) rfl)
theorem mgw_448 : gw_448 ∈ ri_gT := gi_6 _ (List.mem_of_getElem? (i := 18) rfl)
theorem mgw_449 : gw_449 ∈ ri_gT := gi_6 _ (List.mem_of_getElem? (i := 19) rfl)
theorem mgw_452 : gw_452 ∈ ri_gT := gi_6 _ (List.mem_of_getElem? (i := 20) rfl)
theorem mgw_453 : gw_453 ∈ ri_gT := gi_6 _ (List.mem_of_getElem? (i := 21) rfl)
theorem mgw_456 : gw_456 ∈ ri_gT := gi_6 _ (List.mem_of_getElem? (i := 22) rfl)
theorem mgw_457 : gw_457 ∈ ri_gT := gi_6 _ (List.mem_of_getElem? (i := 23) rfl)
theorem mgw_458 : gw_458 ∈ ri_gT := gi_6 _ (List.mem_of_getElem? (i := 24) rfl)
theorem mgw_459 : gw_459 ∈ ri_gT := gi_6 _ (List.mem_of_getElem? (i := 25) rfl)
theorem mgw_461 : gw_461 ∈ ri_gT := gi_6 _ (List.mem_of_getElem? (i := 26) rfl)
theorem mgw_463 : gw_463 ∈ ri_gT := gi_6 _ (List.mem_of_getElem? (i := 27) rfl)
theorem mgw_464 : gw_464 ∈ ri_gT := gi_6 _ (List.mem_of_getElem? (i := 28) rfl)
theorem mgw_465 : gw_465 ∈ ri_gT := gi_6 _ (List.mem_of_getElem? (i := 29) rfl)
theorem mgw_467 : gw_467 ∈ ri_gT := gi_6 _ (List.mem_of_getElem? (i := 30) rfl)
theorem mgw_468 : gw_468 ∈ ri_gT := gi_6 _ (List.mem_of_getElem? (i := 31) rfl)
theorem mgw_469 : gw_469 ∈ ri_gT := gi_6 _ (List.mem_of_getElem? (i := 32) rfl)
theorem mgw_471 : gw_471 ∈ ri_gT := gi_6 _ (List.mem_of_getElem? (i := 33) rfl)
theorem mgw_472 : gw_472 ∈ ri_gT := gi_6 _ (List.mem_of_getElem? (i := 34) rfl)
theorem mgw_475 : gw_475 ∈ ri_gT := gi_6 _ (List.mem_of_getElem? (i := 35) rfl)
theorem mgw_476 : gw_476 ∈ ri_gT := gi_6 _ (List.mem_of_getElem? (i := 36) rfl)
theorem mgw_477 : gw_477 ∈ ri_gT := gi_6 _ (List.mem_of_getElem? (i := 37) rfl)
theorem mgw_479 : gw_479 ∈ ri_gT := gi_6 _ (List.mem_of_getElem? (i := 38) rfl)
theorem mgw_480 : gw_480 ∈ ri_gT := gi_6 _ (List.mem_of_getElem? (i := 39) rfl)
theorem mgw_482 : gw_482 ∈ ri_gT := gi_6 _ (List.mem_of_getElem? (i := 40) rfl)
theorem mgw_483 : gw_483 ∈ ri_gT := gi_6 _ (List.mem_of_getElem? (i := 41) rfl)
theorem mgw_484 : gw_484 ∈ ri_gT := gi_6 _ (List.mem_of_getElem? (i := 42) rfl)
theorem mgw_486 : gw_486 ∈ ri_gT := gi_6 _ (List.mem_of_getElem? (i := 43) rfl)
theorem mgw_487 : gw_487 ∈ ri_gT := gi_6 _ (List.mem_of_getElem? (i := 44) rfl)
theorem mgw_490 : gw_490 ∈ ri_gT := gi_6 _ (List.mem_of_getElem? (i := 45) rfl)
theorem mgw_491 : gw_491 ∈ ri_gT := gi_6 _ (List.mem_of_getElem? (i := 46) rfl)
theorem mgw_493 : gw_493 ∈ ri_gT := gi_6 _ (List.mem_of_getElem? (i := 47) rfl)
theorem mgw_494 : gw_494 ∈ ri_gT := gi_7 _ (List.mem_of_getElem? (i := 0) rfl)
theorem mgw_497 : gw_497 ∈ ri_gT := gi_7 _ (List.mem_of_getElem? (i := 1) rfl)
theorem mgw_498 : gw_498 ∈ ri_gT := gi_7 _ (List.mem_of_getElem? (i := 2) rfl)
theorem mgw_501 : gw_501 ∈ ri_gT := gi_7 _ (List.mem_of_getElem? (i := 3) rfl)
theorem mgw_502 : gw_502 ∈ ri_gT := gi_7 _ (List.mem_of_getElem? (i := 4) rfl)
theorem mgw_505 : gw_505 ∈ ri_gT := gi_7 _ (List.mem_of_getElem? (i := 5) rfl)
theorem mgw_506 : gw_506 ∈ ri_gT := gi_7 _ (List.mem_of_getElem? (i := 6) rfl)
theorem mgw_509 : gw_509 ∈ ri_gT := gi_7 _ (List.mem_of_getElem? (i := 7) rfl)
theorem mgw_510 : gw_510 ∈ ri_gT := gi_7 _ (List.mem_of_getElem? (i := 8) rfl)
theorem mgw_511 : gw_511 ∈ ri_gT := gi_7 _ (List.mem_of_getElem? (i := 9) rfl)
theorem mgw_512 : gw_512 ∈ ri_gT := gi_7 _ (List.mem_of_getElem? (i := 10) rfl)
theorem mgw_514 : gw_514 ∈ ri_gT := gi_7 _ (List.mem_of_getElem? (i := 11) rfl)
theorem mgw_515 : gw_515 ∈ ri_gT := gi_7 _ (List.mem_of_getElem? (i := 12) rfl)
theorem mgw_516 : gw_516 ∈ ri_gT := gi_7 _ (List.mem_of_getElem? (i := 13) rfl)
theorem mgw_519 : gw_519 ∈ ri_gT := gi_7 _ (List.mem_of_getElem? (i := 14) rfl)
theorem mgw_520 : gw_520 ∈ ri_gT := gi_7 _ (List.mem_of_getElem? (i := 15) rfl)
theorem mgw_521 : gw_521 ∈ ri_gT := gi_7 _ (List.mem_of_getElem? (i := 16) rfl)
theorem mgw_524 : gw_524 ∈ ri_gT := gi_7 _ (List.mem_of_getElem? (i := 17) rfl)
theorem mgw_525 : gw_525 ∈ ri_gT := gi_7 _ (List.mem_of_getElem? (i := 18) rfl)
theorem mgw_526 : gw_526 ∈ ri_gT := gi_7 _ (List.mem_of_getElem? (i := 19) rfl)
theorem mgw_528 : gw_528 ∈ ri_gT := gi_7 _ (List.mem_of_getElem? (i := 20) rfl)
theorem mgw_529 : gw_529 ∈ ri_gT := gi_7 _ (List.mem_of_getElem? (i := 21) rfl)
theorem mgw_531 : gw_531 ∈ ri_gT := gi_7 _ (List.mem_of_getElem? (i := 22) rfl)
theorem mgw_532 : gw_532 ∈ ri_gT := gi_7 _ (List.mem_of_getElem? (i := 23) rfl)
theorem mgw_534 : gw_534 ∈ ri_gT := gi_7 _ (List.mem_of_getElem? (i := 24) rfl)
theorem mgw_535 : gw_535 ∈ ri_gT := gi_7 _ (List.mem_of_getElem? (i := 25) rfl)
theorem mgw_537 : gw_537 ∈ ri_gT := gi_7 _ (List.mem_of_getElem? (i := 26) rfl)
theorem mgw_539 : gw_539 ∈ ri_gT := gi_7 _ (List.mem_of_getElem? (i := 27) rfl)
theorem mgw_540 : gw_540 ∈ ri_gT := gi_7 _ (List.mem_of_getElem? (i := 28) rfl)
theorem mgw_541 : gw_541 ∈ ri_gT := gi_7 _ (List.mem_of_getElem? (i := 29) rfl)
theorem mgw_544 : gw_544 ∈ ri_gT := gi_7 _ (List.mem_of_getElem? (i := 30) rfl)
theorem mgw_545 : gw_545 ∈ ri_gT := gi_7 _ (List.mem_of_getElem? (i := 31) rfl)
theorem mgw_547 : gw_547 ∈ ri_gT := gi_7 _ (List.mem_of_getElem? (i := 32) rfl)
theorem mgw_550 : gw_550 ∈ ri_gT := gi_7 _ (List.mem_of_getElem? (i := 33) rfl)
theorem mgw_551 : gw_551 ∈ ri_gT := gi_7 _ (List.mem_of_getElem? (i := 34) rfl)
theorem mgw_552 : gw_552 ∈ ri_gT := gi_7 _ (List.mem_of_getElem? (i := 35) rfl)
theorem mgw_553 : gw_553 ∈ ri_gT := gi_7 _ (List.mem_of_getElem? (i := 36) rfl)
theorem mgw_555 : gw_555 ∈ ri_gT := gi_7 _ (List.mem_of_getElem? (i := 37) rfl)
theorem mgw_556 : gw_556 ∈ ri_gT := gi_7 _ (List.mem_of_getElem? (i := 38) rfl)
theorem mgw_559 : gw_559 ∈ ri_gT := gi_7 _ (List.mem_of_getElem? (i := 39) rfl)
theorem mgw_560 : gw_560 ∈ ri_gT := gi_7 _ (List.mem_of_getElem? (i := 40) rfl)
theorem mgw_561 : gw_561 ∈ ri_gT := gi_7 _ (List.mem_of_getElem? (i := 41) rfl)
theorem mgw_563 : gw_563 ∈ ri_gT := gi_7 _ (List.mem_of_getElem? (i := 42) rfl)
theorem mgw_564 : gw_564 ∈ ri_gT := gi_7 _ (List.mem_of_getElem? (i := 43) rfl)
theorem mgw_567 : gw_567 ∈ ri_gT := gi_7 _ (List.mem_of_getElem? (i := 44) rfl)
theorem mgw_568 : gw_568 ∈ ri_gT := gi_7 _ (List.mem_of_getElem? (i := 45) rfl)
theorem mgw_569 : gw_569 ∈ ri_gT := gi_7 _ (List.mem_of_getElem? (i := 46) rfl)
theorem mgw_571 : gw_571 ∈ ri_gT := gi_7 _ (List.mem_of_getElem? (i := 47) rfl)
theorem mgw_572 : gw_572 ∈ ri_gT := gi_8 _ (List.mem_of_getElem? (i := 0) rfl)
theorem mgw_575 : gw_575 ∈ ri_gT := gi_8 _ (List.mem_of_getElem? (i := 1) rfl)
theorem mgw_576 : gw_576 ∈ ri_gT := gi_8 _ (List.mem_of_getElem? (i := 2) rfl)
theorem mgw_577 : gw_577 ∈ ri_gT := gi_8 _ (List.mem_of_getElem? (i := 3) rfl)
theorem mgw_579 : gw_579 ∈ ri_gT := gi_8 _ (List.mem_of_getElem? (i := 4) rfl)
theorem mgw_580 : gw_580 ∈ ri_gT := gi_8 _ (List.mem_of_getElem? (i := 5) rfl)
theorem mgw_581 : gw_581 ∈ ri_gT := gi_8 _ (List.mem_of_getElem? (i := 6) rfl)
theorem mgw_583 : gw_583 ∈ ri_gT := gi_8 _ (List.mem_of_getElem? (i := 7) rfl)
theorem mgw_584 : gw_584 ∈ ri_gT := gi_8 _ (List.mem_of_getElem? (i := 8) rfl)
theorem mgw_585 : gw_585 ∈ ri_gT := gi_8 _ (List.mem_of_getElem? (i := 9) rfl)
theorem mgw_586 : gw_586 ∈ ri_gT := gi_8 _ (List.mem_of_getElem? (i := 10) rfl)
theorem mgw_587 : gw_587 ∈ ri_gT := gi_8 _ (List.mem_of_getElem? (i := 11) rfl)
theorem mgw_588 : gw_588 ∈ ri_gT := gi_8 _ (List.mem_of_getElem? (i := 12) rfl)
theorem mgw_590 : gw_590 ∈ ri_gT := gi_8 _ (List.mem_of_getElem? (i := 13) rfl)
theorem mgw_591 : gw_591 ∈ ri_gT := gi_8 _ (List.mem_of_getElem? (i := 14) rfl)
theorem mgw_592 : gw_592 ∈ ri_gT := gi_8 _ (List.mem_of_getElem? (i := 15) rfl)
theorem mgw_594 : gw_594 ∈ ri_gT := gi_8 _ (List.mem_of_getElem? (i := 16) rfl)
theorem mgw_595 : gw_595 ∈ ri_gT := gi_8 _ (List.mem_of_getElem? (i := 17) rfl)
theorem mgw_596 : gw_596 ∈ ri_gT := gi_8 _ (List.mem_of_getElem? (i := 18) rfl)
theorem mgw_598 : gw_598 ∈ ri_gT := gi_8 _ (List.mem_of_getElem? (i := 19) rfl)
theorem mgw_599 : gw_599 ∈ ri_gT := gi_8 _ (List.mem_of_getElem? (i := 20) rfl)
theorem mgw_600 : gw_600 ∈ ri_gT := gi_8 _ (List.mem_of_getElem? (i := 21) rfl)
theorem mgw_602 : gw_602 ∈ ri_gT := gi_8 _ (List.mem_of_getElem? (i := 22) rfl)
theorem mgw_603 : gw_603 ∈ ri_gT := gi_8 _ (List.mem_of_getElem? (i := 23) rfl)
theorem mgw_607 : gw_607 ∈ ri_gT := gi_8 _ (List.mem_of_getElem? (i := 24) rfl)
theorem mgw_608 : gw_608 ∈ ri_gT := gi_8 _ (List.mem_of_getElem? (i := 25) rfl)
theorem mgw_610 : gw_610 ∈ ri_gT := gi_8 _ (List.mem_of_getElem? (i := 26) rfl)
theorem mgw_611 : gw_611 ∈ ri_gT := gi_8 _ (List.mem_of_getElem? (i := 27) rfl)
theorem mgw_612 : gw_612 ∈ ri_gT := gi_8 _ (List.mem_of_getElem? (i := 28) rfl)
theorem mgw_613 : gw_613 ∈ ri_gT := gi_8 _ (List.mem_of_getElem? (i := 29) rfl)
theorem mgw_614 : gw_614 ∈ ri_gT := gi_8 _ (List.mem_of_getElem? (i := 30) rfl)
theorem mgw_615 : gw_615 ∈ ri_gT := gi_8 _ (List.mem_of_getElem? (i := 31) rfl)
theorem mgw_616 : gw_616 ∈ ri_gT := gi_8 _ (List.mem_of_getElem? (i := 32) rfl)
theorem mgw_617 : gw_617 ∈ ri_gT := gi_8 _ (List.mem_of_getElem? (i := 33) rfl)
theorem mgw_618 : gw_618 ∈ ri_gT := gi_8 _ (List.mem_of_getElem? (i := 34) rfl)
theorem mgw_620 : gw_620 ∈ ri_gT := gi_8 _ (List.mem_of_getElem? (i := 35) rfl)
theorem mgw_621 : gw_621 ∈ ri_gT := gi_8 _ (List.mem_of_getElem? (i := 36) rfl)
theorem mgw_622 : gw_622 ∈ ri_gT := gi_8 _ (List.mem_of_getElem? (i := 37) rfl)
theorem mgw_624 : gw_624 ∈ ri_gT := gi_8 _ (List.mem_of_getElem? (i := 38) rfl)
theorem mgw_625 : gw_625 ∈ ri_gT := gi_8 _ (List.mem_of_getElem? (i := 39) rfl)
theorem mgw_626 : gw_626 ∈ ri_gT := gi_8 _ (List.mem_of_getElem? (i := 40) rfl)
theorem mgw_628 : gw_628 ∈ ri_gT := gi_8 _ (List.mem_of_getElem? (i := 41) rfl)
theorem mgw_629 : gw_629 ∈ ri_gT := gi_8 _ (List.mem_of_getElem? (i := 42) rfl)
theorem mgw_630 : gw_630 ∈ ri_gT := gi_8 _ (List.mem_of_getElem? (i := 43) rfl)
theorem mgw_632 : gw_632 ∈ ri_gT := gi_8 _ (List.mem_of_getElem? (i := 44) rfl)
theorem mgw_633 : gw_633 ∈ ri_gT := gi_8 _ (List.mem_of_getElem? (i := 45) rfl)
theorem mgw_634 : gw_634 ∈ ri_gT := gi_8 _ (List.mem_of_getElem? (i := 46) rfl)
theorem mgw_636 : gw_636 ∈ ri_gT := gi_8 _ (List.mem_of_getElem? (i := 47) rfl)
theorem mgw_637 : gw_637 ∈ ri_gT := gi_9 _ (List.mem_of_getElem? (i := 0) rfl)
theorem mgw_638 : gw_638 ∈ ri_gT := gi_9 _ (List.mem_of_getElem? (i := 1) rfl)
theorem mgw_640 : gw_640 ∈ ri_gT := gi_9 _ (List.mem_of_getElem? (i := 2) rfl)
theorem mgw_641 : gw_641 ∈ ri_gT := gi_9 _ (List.mem_of_getElem? (i := 3) rfl)
theorem mgw_642 : gw_642 ∈ ri_gT := gi_9 _ (List.mem_of_getElem? (i := 4) rfl)
theorem mgw_644 : gw_644 ∈ ri_gT := gi_9 _ (List.mem_of_getElem? (i := 5) rfl)
theorem mgw_645 : gw_645 ∈ ri_gT := gi_9 _ (List.mem_of_getElem? (i := 6) rfl)
theorem mgw_646 : gw_646 ∈ ri_gT := gi_9 _ (List.mem_of_getElem? (i := 7) rfl)
theorem mgw_647 : gw_647 ∈ ri_gT := gi_9 _ (List.mem_of_getElem? (i := 8) rfl)
theorem mgw_648 : gw_648 ∈ ri_gT := gi_9 _ (List.mem_of_getElem? (i := 9) rfl)
theorem mgw_649 : gw_649 ∈ ri_gT := gi_9 _ (List.mem_of_getElem? (i := 10) rfl)
theorem mgw_650 : gw_650 ∈ ri_gT := gi_9 _ (List.mem_of_getElem? (i := 11) rfl)
theorem mgw_652 : gw_652 ∈ ri_gT := gi_9 _ (List.mem_of_getElem? (i := 12) rfl)
theorem mgw_653 : gw_653 ∈ ri_gT := gi_9 _ (List.mem_of_getElem? (i := 13) rfl)
theorem mgw_656 : gw_656 ∈ ri_gT := gi_9 _ (List.mem_of_getElem? (i := 14) rfl)
theorem mgw_657 : gw_657 ∈ ri_gT := gi_9 _ (List.mem_of_getElem? (i := 15) rfl)
theorem mgw_659 : gw_659 ∈ ri_gT := gi_9 _ (List.mem_of_getElem? (i := 16) rfl)
theorem mgw_660 : gw_660 ∈ ri_gT := gi_9 _ (List.mem_of_getElem? (i := 17) rfl)
theorem mgw_661 : gw_661 ∈ ri_gT := gi_9 _ (List.mem_of_getElem? (i := 18) rfl)
theorem mgw_662 : gw_662 ∈ ri_gT := gi_9 _ (List.mem_of_getElem? (i := 19) rfl)
theorem mgw_664 : gw_664 ∈ ri_gT := gi_9 _ (List.mem_of_getElem? (i := 20) rfl)
theorem mgw_665 : gw_665 ∈ ri_gT := gi_9 _ (List.mem_of_getElem? (i := 21) rfl)
theorem mgw_666 : gw_666 ∈ ri_gT := gi_9 _ (List.mem_of_getElem? (i := 22) rfl)
theorem mgw_667 : gw_667 ∈ ri_gT := gi_9 _ (List.mem_of_getElem? (i := 23) rfl)
theorem mgw_668 : gw_668 ∈ ri_gT := gi_9 _ (List.mem_of_getElem? (i := 24) rfl)
theorem mgw_669 : gw_669 ∈ ri_gT := gi_9 _ (List.mem_of_getElem? (i := 25) rfl)
theorem mgw_670 : gw_670 ∈ ri_gT := gi_9 _ (List.mem_of_getElem? (i := 26) rfl)
theorem mgw_671 : gw_671 ∈ ri_gT := gi_9 _ (List.mem_of_getElem? (i := 27) rfl)
theorem mgw_672 : gw_672 ∈ ri_gT := gi_9 _ (List.mem_of_getElem? (i := 28) rfl)
theorem mgw_673 : gw_673 ∈ ri_gT := gi_9 _ (List.mem_of_getElem? (i := 29) rfl)
theorem mgw_674 : gw_674 ∈ ri_gT := gi_9 _ (List.mem_of_getElem? (i := 30) rfl)
theorem mgw_675 : gw_675 ∈ ri_gT := gi_9 _ (List.mem_of_getElem? (i := 31) rfl)
theorem mgw_676 : gw_676 ∈ ri_gT := gi_9 _ (List.mem_of_getElem? (i := 32) rfl)
theorem mgw_677 : gw_677 ∈ ri_gT := gi_9 _ (List.mem_of_getElem? (i := 33) rfl)
theorem mgw_678 : gw_678 ∈ ri_gT := gi_9 _ (List.mem_of_getElem? (i := 34) rfl)
theorem mgw_679 : gw_679 ∈ ri_gT := gi_9 _ (List.mem_of_getElem? (i := 35) rfl)
theorem mgw_682 : gw_682 ∈ ri_gT := gi_9 _ (List.mem_of_getElem? (i := 36) rfl)
theorem mgw_683 : gw_683 ∈ ri_gT := gi_9 _ (List.mem_of_getElem? (i := 37) rfl)
theorem mgw_684 : gw_684 ∈ ri_gT := gi_9 _ (List.mem_of_getElem? (i := 38) rfl)
theorem mgw_686 : gw_686 ∈ ri_gT := gi_9 _ (List.mem_of_getElem? (i := 39) rfl)
theorem mgw_687 : gw_687 ∈ ri_gT := gi_9 _ (List.mem_of_getElem? (i := 40) rfl)
theorem mgw_689 : gw_689 ∈ ri_gT := gi_9 _ (List.mem_of_getElem? (i := 41) rfl)
theorem mgw_691 : gw_691 ∈ ri_gT := gi_9 _ (List.mem_of_getElem? (i := 42) rfl)
theorem mgw_692 : gw_692 ∈ ri_gT := gi_9 _ (List.mem_of_getElem? (i := 43) rfl)
theorem mgw_695 : gw_695 ∈ ri_gT := gi_9 _ (List.mem_of_getElem? (i := 44) rfl)
theorem mgw_696 : gw_696 ∈ ri_gT := gi_9 _ (List.mem_of_getElem? (i := 45) rfl)
theorem mgw_700 : gw_700 ∈ ri_gT := gi_9 _ (List.mem_of_getElem? (i := 46) rfl)
theorem mgw_701 : gw_701 ∈ ri_gT := gi_9 _ (List.mem_of_getElem? (i := 47) rfl)
theorem mgw_704 : gw_704 ∈ ri_gT := gi_10 _ (List.mem_of_getElem? (i := 0) rfl)
theorem mgw_705 : gw_705 ∈ ri_gT := gi_10 _ (List.mem_of_getElem? (i := 1) rfl)
theorem mgw_706 : gw_706 ∈ ri_gT := gi_10 _ (List.mem_of_getElem? (i := 2) rfl)
theorem mgw_708 : gw_708 ∈ ri_gT := gi_10 _ (List.mem_of_getElem? (i := 3) rfl)
theorem mgw_709 : gw_709 ∈ ri_gT := gi_10 _ (List.mem_of_getElem? (i := 4) rfl)
theorem mgw_710 : gw_710 ∈ ri_gT := gi_10 _ (List.mem_of_getElem? (i := 5) rfl)
theorem mgw_712 : gw_712 ∈ ri_gT := gi_10 _ (List.mem_of_getElem? (i := 6) rfl)
theorem mgw_713 : gw_713 ∈ ri_gT := gi_10 _ (List.mem_of_getElem? (i := 7) rfl)
theorem mgw_714 : gw_714 ∈ ri_gT := gi_10 _ (List.mem_of_getElem? (i := 8) rfl)
theorem mgw_716 : gw_716 ∈ ri_gT := gi_10 _ (List.mem_of_getElem? (i := 9) rfl)
theorem mgw_717 : gw_717 ∈ ri_gT := gi_10 _ (List.mem_of_getElem? (i := 10) rfl)
theorem mgw_718 : gw_718 ∈ ri_gT := gi_10 _ (List.mem_of_getElem? (i := 11) rfl)
theorem mgw_720 : gw_720 ∈ ri_gT := gi_10 _ (List.mem_of_getElem? (i := 12) rfl)
theorem mgw_721 : gw_721 ∈ ri_gT := gi_10 _ (List.mem_of_getElem? (i := 13) rfl)
theorem mgw_722 : gw_722 ∈ ri_gT := gi_10 _ (List.mem_of_getElem? (i := 14) rfl)
theorem mgw_724 : gw_724 ∈ ri_gT := gi_10 _ (List.mem_of_getElem? (i := 15) rfl)
theorem mgw_725 : gw_725 ∈ ri_gT := gi_10 _ (List.mem_of_getElem? (i := 16) rfl)
theorem mgw_726 : gw_726 ∈ ri_gT := gi_10 _ (List.mem_of_getElem? (i := 17) rfl)
theorem mgw_728 : gw_728 ∈ ri_gT := gi_10 _ (List.mem_of_getElem? (i := 18) rfl)
theorem mgw_729 : gw_729 ∈ ri_gT := gi_10 _ (List.mem_of_getElem? (i := 19) rfl)
theorem mgw_730 : gw_730 ∈ ri_gT := gi_10 _ (List.mem_of_getElem? (i := 20) rfl)
theorem mgw_732 : gw_732 ∈ ri_gT := gi_10 _ (List.mem_of_getElem? (i := 21) rfl)
theorem mgw_733 : gw_733 ∈ ri_gT := gi_10 _ (List.mem_of_getElem? (i := 22) rfl)
theorem mgw_734 : gw_734 ∈ ri_gT := gi_10 _ (List.mem_of_getElem? (i := 23) rfl)
theorem mgw_736 : gw_736 ∈ ri_gT := gi_10 _ (List.mem_of_getElem? (i := 24) rfl)
theorem mgw_737 : gw_737 ∈ ri_gT := gi_10 _ (List.mem_of_getElem? (i := 25) rfl)
theorem mgw_738 : gw_738 ∈ ri_gT := gi_10 _ (List.mem_of_getElem? (i := 26) rfl)
theorem mgw_740 : gw_740 ∈ ri_gT := gi_10 _ (List.mem_of_getElem? (i := 27) rfl)
theorem mgw_741 : gw_741 ∈ ri_gT := gi_10 _ (List.mem_of_getElem? (i := 28) rfl)
theorem mgw_742 : gw_742 ∈ ri_gT := gi_10 _ (List.mem_of_getElem? (i := 29) rfl)
theorem mgw_744 : gw_744 ∈ ri_gT := gi_10 _ (List.mem_of_getElem? (i := 30) rfl)
theorem mgw_745 : gw_745 ∈ ri_gT := gi_10 _ (List.mem_of_getElem? (i := 31) rfl)
theorem mgw_746 : gw_746 ∈ ri_gT := gi_10 _ (List.mem_of_getElem? (i := 32) rfl)
theorem mgw_748 : gw_748 ∈ ri_gT := gi_10 _ (List.mem_of_getElem? (i := 33) rfl)
theorem mgw_749 : gw_749 ∈ ri_gT := gi_10 _ (List.mem_of_getElem? (i := 34) rfl)
theorem mgw_752 : gw_752 ∈ ri_gT := gi_10 _ (List.mem_of_getElem? (i := 35) rfl)
theorem mgw_753 : gw_753 ∈ ri_gT := gi_10 _ (List.mem_of_getElem? (i := 36) rfl)
theorem mgw_754 : gw_754 ∈ ri_gT := gi_10 _ (List.mem_of_getElem? (i := 37) rfl)
theorem mgw_755 : gw_755 ∈ ri_gT := gi_10 _ (List.mem_of_getElem? (i := 38) rfl)
theorem mgw_756 : gw_756 ∈ ri_gT := gi_10 _ (List.mem_of_getElem? (i := 39) rfl)
theorem mgw_757 : gw_757 ∈ ri_gT := gi_10 _ (List.mem_of_getElem? (i := 40) rfl)
theorem mgw_760 : gw_760 ∈ ri_gT := gi_10 _ (List.mem_of_getElem? (i := 41) rfl)
theorem mgw_761 : gw_761 ∈ ri_gT := gi_10 _ (List.mem_of_getElem? (i := 42) rfl)
theorem mgw_762 : gw_762 ∈ ri_gT := gi_10 _ (List.mem_of_getElem? (i := 43) rfl)
theorem mgw_764 : gw_764 ∈ ri_gT := gi_10 _ (List.mem_of_getElem? (i := 44) rfl)
theorem mgw_765 : gw_765 ∈ ri_gT := gi_10 _ (List.mem_of_getElem? (i := 45) rfl)
theorem mgw_766 : gw_766 ∈ ri_gT := gi_10 _ (List.mem_of_getElem? (i := 46) rfl)
theorem mgw_768 : gw_768 ∈ ri_gT := gi_10 _ (List.mem_of_getElem? (i := 47) rfl)
theorem mgw_769 : gw_769 ∈ ri_gT := gi_11 _ (List.mem_of_getElem? (i := 0) rfl)
theorem mgw_772 : gw_772 ∈ ri_gT := gi_11 _ (List.mem_of_getElem? (i := 1) rfl)
theorem mgw_774 : gw_774 ∈ ri_gT := gi_11 _ (List.mem_of_getElem? (i := 2) rfl)
theorem mgw_775 : gw_775 ∈ ri_gT := gi_11 _ (List.mem_of_getElem? (i := 3) rfl)
theorem mgw_776 : gw_776 ∈ ri_gT := gi_11 _ (List.mem_of_getElem? (i := 4) rfl)
theorem mgw_777 : gw_777 ∈ ri_gT := gi_11 _ (List.mem_of_getElem? (i := 5) rfl)
theorem mgw_778 : gw_778 ∈ ri_gT := gi_11 _ (List.mem_of_getElem? (i := 6) rfl)
theorem mgw_779 : gw_779 ∈ ri_gT := gi_11 _ (List.mem_of_getElem? (i := 7) rfl)
theorem mgw_780 : gw_780 ∈ ri_gT := gi_11 _ (List.mem_of_getElem? (i := 8) rfl)
theorem mgw_781 : gw_781 ∈ ri_gT := gi_11 _ (List.mem_of_getElem? (i := 9) rfl)
theorem mgw_784 : gw_784 ∈ ri_gT := gi_11 _ (List.mem_of_getElem? (i := 10) rfl)
theorem mgw_785 : gw_785 ∈ ri_gT := gi_11 _ (List.mem_of_getElem? (i := 11) rfl)
theorem mgw_786 : gw_786 ∈ ri_gT := gi_11 _ (List.mem_of_getElem? (i := 12) rfl)
theorem mgw_787 : gw_787 ∈ ri_gT := gi_11 _ (List.mem_of_getElem? (i := 13) rfl)
theorem mgw_788 : gw_788 ∈ ri_gT := gi_11 _ (List.mem_of_getElem? (i := 14) rfl)
theorem mgw_789 : gw_789 ∈ ri_gT := gi_11 _ (List.mem_of_getElem? (i := 15) rfl)
theorem mgw_790 : gw_790 ∈ ri_gT := gi_11 _ (List.mem_of_getElem? (i := 16) rfl)
theorem mgw_791 : gw_791 ∈ ri_gT := gi_11 _ (List.mem_of_getElem? (i := 17) rfl)
theorem mgw_792 : gw_792 ∈ ri_gT := gi_11 _ (List.mem_of_getElem? (i := 18) rfl)
theorem mgw_795 : gw_795 ∈ ri_gT := gi_11 _ (List.mem_of_getElem? (i := 19) rfl)
theorem mgw_796 : gw_796 ∈ ri_gT := gi_11 _ (List.mem_of_getElem? (i := 20) rfl)
theorem mgw_797 : gw_797 ∈ ri_gT := gi_11 _ (List.mem_of_getElem? (i := 21) rfl)
theorem mgw_798 : gw_798 ∈ ri_gT := gi_11 _ (List.mem_of_getElem? (i := 22) rfl)
theorem mgw_799 : gw_799 ∈ ri_gT := gi_11 _ (List.mem_of_getElem? (i := 23) rfl)
theorem mgw_800 : gw_800 ∈ ri_gT := gi_11 _ (List.mem_of_getElem? (i := 24) rfl)
theorem mgw_801 : gw_801 ∈ ri_gT := gi_11 _ (List.mem_of_getElem? (i := 25) rfl)
theorem mgw_802 : gw_802 ∈ ri_gT := gi_11 _ (List.mem_of_getElem? (i := 26) rfl)
theorem mgw_803 : gw_803 ∈ ri_gT := gi_11 _ (List.mem_of_getElem? (i := 27) rfl)
theorem mgw_804 : gw_804 ∈ ri_gT := gi_11 _ (List.mem_of_getElem? (i := 28) rfl)
theorem mgw_805 : gw_805 ∈ ri_gT := gi_11 _ (List.mem_of_getElem? (i := 29) rfl)
theorem mgw_806 : gw_806 ∈ ri_gT := gi_11 _ (List.mem_of_getElem? (i := 30) rfl)
theorem mgw_808 : gw_808 ∈ ri_gT := gi_11 _ (List.mem_of_getElem? (i := 31) rfl)
theorem mgw_809 : gw_809 ∈ ri_gT := gi_11 _ (List.mem_of_getElem? (i := 32) rfl)
theorem mgw_810 : gw_810 ∈ ri_gT := gi_11 _ (List.mem_of_getElem? (i := 33) rfl)
theorem mgw_811 : gw_811 ∈ ri_gT := gi_11 _ (List.mem_of_getElem? (i := 34) rfl)
theorem mgw_812 : gw_812 ∈ ri_gT := gi_11 _ (List.mem_of_getElem? (i := 35) rfl)
theorem mgw_813 : gw_813 ∈ ri_gT := gi_11 _ (List.mem_of_getElem? (i := 36) rfl)
theorem mgw_814 : gw_814 ∈ ri_gT := gi_11 _ (List.mem_of_getElem? (i := 37) rfl)
theorem mgw_815 : gw_815 ∈ ri_gT := gi_11 _ (List.mem_of_getElem? (i := 38) rfl)
theorem mgw_816 : gw_816 ∈ ri_gT := gi_11 _ (List.mem_of_getElem? (i := 39) rfl)
theorem mgw_817 : gw_817 ∈ ri_gT := gi_11 _ (List.mem_of_getElem? (i := 40) rfl)
theorem mgw_818 : gw_818 ∈ ri_gT := gi_11 _ (List.mem_of_getElem? (i := 41) rfl)
theorem mgw_819 : gw_819 ∈ ri_gT := gi_11 _ (List.mem_of_getElem? (i := 42) rfl)
theorem mgw_820 : gw_820 ∈ ri_gT := gi_11 _ (List.mem_of_getElem? (i := 43) rfl)
theorem mgw_821 : gw_821 ∈ ri_gT := gi_11 _ (List.mem_of_getElem? (i := 44) rfl)
theorem mgw_822 : gw_822 ∈ ri_gT := gi_11 _ (List.mem_of_getElem? (i := 45) rfl)
theorem mgw_823 : gw_823 ∈ ri_gT := gi_11 _ (List.mem_of_getElem? (i := 46) rfl)
theorem mgw_824 : gw_824 ∈ ri_gT := gi_11 _ (List.mem_of_getElem? (i := 47) rfl)
theorem mgw_825 : gw_825 ∈ ri_gT := gi_12 _ (List.mem_of_getElem? (i := 0) rfl)
theorem mgw_826 : gw_826 ∈ ri_gT := gi_12 _ (List.mem_of_getElem? (i := 1) rfl)
theorem mgw_827 : gw_827 ∈ ri_gT := gi_12 _ (List.mem_of_getElem? (i := 2) rfl)
theorem mgw_828 : gw_828 ∈ ri_gT := gi_12 _ (List.mem_of_getElem? (i := 3) rfl)
theorem mgw_829 : gw_829 ∈ ri_gT := gi_12 _ (List.mem_of_getElem? (i := 4) rfl)
theorem mgw_830 : gw_830 ∈ ri_gT := gi_12 _ (List.mem_of_getElem? (i := 5) rfl)
theorem mgw_831 : gw_831 ∈ ri_gT := gi_12 _ (List.mem_of_getElem? (i := 6) rfl)
theorem mgw_832 : gw_832 ∈ ri_gT := gi_12 _ (List.mem_of_getElem? (i := 7) rfl)
theorem mgw_833 : gw_833 ∈ ri_gT := gi_12 _ (List.mem_of_getElem? (i := 8) rfl)
theorem mgw_834 : gw_834 ∈ ri_gT := gi_12 _ (List.mem_of_getElem? (i := 9) rfl)
theorem mgw_835 : gw_835 ∈ ri_gT := gi_12 _ (List.mem_of_getElem? (i := 10) rfl)
theorem mgw_836 : gw_836 ∈ ri_gT := gi_12 _ (List.mem_of_getElem? (i := 11) rfl)
theorem mgw_837 : gw_837 ∈ ri_gT := gi_12 _ (List.mem_of_getElem? (i := 12) rfl)
theorem mgw_838 : gw_838 ∈ ri_gT := gi_12 _ (List.mem_of_getElem? (i := 13) rfl)
theorem mgw_839 : gw_839 ∈ ri_gT := gi_12 _ (List.mem_of_getElem? (i := 14) rfl)
theorem mgw_840 : gw_840 ∈ ri_gT := gi_12 _ (List.mem_of_getElem? (i := 15) rfl)
theorem mgw_841 : gw_841 ∈ ri_gT := gi_12 _ (List.mem_of_getElem? (i := 16) rfl)
theorem mgw_842 : gw_842 ∈ ri_gT := gi_12 _ (List.mem_of_getElem? (i := 17) rfl)
theorem mgw_843 : gw_843 ∈ ri_gT := gi_12 _ (List.mem_of_getElem? (i := 18) rfl)
theorem mgw_844 : gw_844 ∈ ri_gT := gi_12 _ (List.mem_of_getElem? (i := 19) rfl)
theorem mgw_845 : gw_845 ∈ ri_gT := gi_12 _ (List.mem_of_getElem? (i := 20) rfl)
theorem mgw_846 : gw_846 ∈ ri_gT := gi_12 _ (List.mem_of_getElem? (i := 21) rfl)
theorem mgw_847 : gw_847 ∈ ri_gT := gi_12 _ (List.mem_of_getElem? (i := 22) rfl)
theorem mgw_848 : gw_848 ∈ ri_gT := gi_12 _ (List.mem_of_getElem? (i := 23) rfl)
theorem mgw_849 : gw_849 ∈ ri_gT := gi_12 _ (List.mem_of_getElem? (i := 24) rfl)
theorem mgw_850 : gw_850 ∈ ri_gT := gi_12 _ (List.mem_of_getElem? (i := 25) rfl)
theorem mgw_852 : gw_852 ∈ ri_gT := gi_12 _ (List.mem_of_getElem? (i := 26) rfl)
theorem mgw_854 : gw_854 ∈ ri_gT := gi_12 _ (List.mem_of_getElem? (i := 27) rfl)
theorem mgw_856 : gw_856 ∈ ri_gT := gi_12 _ (List.mem_of_getElem? (i := 28) rfl)
theorem mgw_858 : gw_858 ∈ ri_gT := gi_12 _ (List.mem_of_getElem? (i := 29) rfl)
theorem mgw_860 : gw_860 ∈ ri_gT := gi_12 _ (List.mem_of_getElem? (i := 30) rfl)
theorem mgw_862 : gw_862 ∈ ri_gT := gi_12 _ (List.mem_of_getElem? (i := 31) rfl)
theorem mgw_864 : gw_864 ∈ ri_gT := gi_12 _ (List.mem_of_getElem? (i := 32) rfl)
theorem mgw_866 : gw_866 ∈ ri_gT := gi_12 _ (List.mem_of_getElem? (i := 33) rfl)
theorem mgw_868 : gw_868 ∈ ri_gT := gi_12 _ (List.mem_of_getElem? (i := 34) rfl)
theorem mgw_870 : gw_870 ∈ ri_gT := gi_12 _ (List.mem_of_getElem? (i := 35) rfl)
theorem mgw_872 : gw_872 ∈ ri_gT := gi_12 _ (List.mem_of_getElem? (i := 36) rfl)
theorem mgw_874 : gw_874 ∈ ri_gT := gi_12 _ (List.mem_of_getElem? (i := 37) rfl)
theorem mgw_876 : gw_876 ∈ ri_gT := gi_12 _ (List.mem_of_getElem? (i := 38) rfl)
theorem mgw_878 : gw_878 ∈ ri_gT := gi_12 _ (List.mem_of_getElem? (i := 39) rfl)
theorem mgw_880 : gw_880 ∈ ri_gT := gi_12 _ (List.mem_of_getElem? (i := 40) rfl)
theorem mgw_882 : gw_882 ∈ ri_gT := gi_12 _ (List.mem_of_getElem? (i := 41) rfl)
theorem mgw_884 : gw_884 ∈ ri_gT := gi_12 _ (List.mem_of_getElem? (i := 42) rfl)
theorem mgw_886 : gw_886 ∈ ri_gT := gi_12 _ (List.mem_of_getElem? (i := 43) rfl)
theorem mgw_888 : gw_888 ∈ ri_gT := gi_12 _ (List.mem_of_getElem? (i := 44) rfl)
theorem mgw_890 : gw_890 ∈ ri_gT := gi_12 _ (List.mem_of_getElem? (i := 45) rfl)
theorem mgw_892 : gw_892 ∈ ri_gT := gi_12 _ (List.mem_of_getElem? (i := 46) rfl)
theorem mgw_894 : gw_894 ∈ ri_gT := gi_12 _ (List.mem_of_getElem? (i := 47) rfl)
theorem mgw_896 : gw_896 ∈ ri_gT := gi_13 _ (List.mem_of_getElem? (i := 0) rfl)
theorem mgw_898 : gw_898 ∈ ri_gT := gi_13 _ (List.mem_of_getElem? (i := 1) rfl)
theorem mgw_900 : gw_900 ∈ ri_gT := gi_13 _ (List.mem_of_getElem? (i := 2) rfl)
theorem mgw_902 : gw_902 ∈ ri_gT := gi_13 _ (List.mem_of_getElem? (i := 3) rfl)
theorem mgw_904 : gw_904 ∈ ri_gT := gi_13 _ (List.mem_of_getElem? (i := 4) rfl)
theorem mgw_906 : gw_906 ∈ ri_gT := gi_13 _ (List.mem_of_getElem? (i := 5) rfl)
theorem mgw_908 : gw_908 ∈ ri_gT := gi_13 _ (List.mem_of_getElem? (i := 6) rfl)
theorem mgw_910 : gw_910 ∈ ri_gT := gi_13 _ (List.mem_of_getElem? (i := 7) rfl)
theorem mgw_912 : gw_912 ∈ ri_gT := gi_13 _ (List.mem_of_getElem? (i := 8) rfl)
theorem mgw_914 : gw_914 ∈ ri_gT := gi_13 _ (List.mem_of_getElem? (i := 9) rfl)
theorem mgw_916 : gw_916 ∈ ri_gT := gi_13 _ (List.mem_of_getElem? (i := 10) rfl)
theorem mgw_918 : gw_918 ∈ ri_gT := gi_13 _ (List.mem_of_getElem? (i := 11) rfl)
theorem mgw_920 : gw_920 ∈ ri_gT := gi_13 _ (List.mem_of_getElem? (i := 12) rfl)
theorem mgw_923 : gw_923 ∈ ri_gT := gi_13 _ (List.mem_of_getElem? (i := 13) rfl)
theorem mgw_924 : gw_924 ∈ ri_gT := gi_13 _ (List.mem_of_getElem? (i := 14) rfl)
theorem mgw_925 : gw_925 ∈ ri_gT := gi_13 _ (List.mem_of_getElem? (i := 15) rfl)
theorem mgw_926 : gw_926 ∈ ri_gT := gi_13 _ (List.mem_of_getElem? (i := 16) rfl)
theorem mgw_927 : gw_927 ∈ ri_gT := gi_13 _ (List.mem_of_getElem? (i := 17) rfl)
theorem mgw_928 : gw_928 ∈ ri_gT := gi_13 _ (List.mem_of_getElem? (i := 18) rfl)
theorem mgw_929 : gw_929 ∈ ri_gT := gi_13 _ (List.mem_of_getElem? (i := 19) rfl)
theorem mgw_930 : gw_930 ∈ ri_gT := gi_13 _ (List.mem_of_getElem? (i := 20) rfl)
theorem mgw_931 : gw_931 ∈ ri_gT := gi_13 _ (List.mem_of_getElem? (i := 21) rfl)
theorem mgw_932 : gw_932 ∈ ri_gT := gi_13 _ (List.mem_of_getElem? (i := 22) rfl)
theorem mgw_933 : gw_933 ∈ ri_gT := gi_13 _ (List.mem_of_getElem? (i := 23) rfl)
theorem mgw_934 : gw_934 ∈ ri_gT := gi_13 _ (List.mem_of_getElem? (i := 24) rfl)
theorem mgw_935 : gw_935 ∈ ri_gT := gi_13 _ (List.mem_of_getElem? (i := 25) rfl)
theorem mgw_936 : gw_936 ∈ ri_gT := gi_13 _ (List.mem_of_getElem? (i := 26) rfl)
theorem mgw_937 : gw_937 ∈ ri_gT := gi_13 _ (List.mem_of_getElem? (i := 27) rfl)
theorem mgw_938 : gw_938 ∈ ri_gT := gi_13 _ (List.mem_of_getElem? (i := 28) rfl)
theorem mgw_939 : gw_939 ∈ ri_gT := gi_13 _ (List.mem_of_getElem? (i := 29) rfl)
theorem mgw_940 : gw_940 ∈ ri_gT := gi_13 _ (List.mem_of_getElem? (i := 30) rfl)
theorem mgw_941 : gw_941 ∈ ri_gT := gi_13 _ (List.mem_of_getElem? (i := 31) rfl)
theorem mgw_943 : gw_943 ∈ ri_gT := gi_13 _ (List.mem_of_getElem? (i := 32) rfl)
theorem mgw_944 : gw_944 ∈ ri_gT := gi_13 _ (List.mem_of_getElem? (i := 33) rfl)
theorem mgw_945 : gw_945 ∈ ri_gT := gi_13 _ (List.mem_of_getElem? (i := 34) rfl)
theorem mgw_946 : gw_946 ∈ ri_gT := gi_13 _ (List.mem_of_getElem? (i := 35) rfl)
theorem mgw_947 : gw_947 ∈ ri_gT := gi_13 _ (List.mem_of_getElem? (i := 36) rfl)
theorem mgw_948 : gw_948 ∈ ri_gT := gi_13 _ (List.mem_of_getElem? (i := 37) rfl)
theorem mgw_949 : gw_949 ∈ ri_gT := gi_13 _ (List.mem_of_getElem? (i := 38) rfl)
theorem mgw_950 : gw_950 ∈ ri_gT := gi_13 _ (List.mem_of_getElem? (i := 39) rfl)
theorem mgw_951 : gw_951 ∈ ri_gT := gi_13 _ (List.mem_of_getElem? (i := 40) rfl)
theorem mgw_952 : gw_952 ∈ ri_gT := gi_13 _ (List.mem_of_getElem? (i := 41) rfl)
theorem mgw_953 : gw_953 ∈ ri_gT := gi_13 _ (List.mem_of_getElem? (i := 42) rfl)
theorem mgw_954 : gw_954 ∈ ri_gT := gi_13 _ (List.mem_of_getElem? (i := 43) rfl)
theorem mgw_955 : gw_955 ∈ ri_gT := gi_13 _ (List.mem_of_getElem? (i := 44) rfl)
theorem mgw_956 : gw_956 ∈ ri_gT := gi_13 _ (List.mem_of_getElem? (i := 45) rfl)
theorem mgw_957 : gw_957 ∈ ri_gT := gi_13 _ (List.mem_of_getElem? (i := 46) rfl)
theorem mgw_958 : gw_958 ∈ ri_gT := gi_13 _ (List.mem_of_getElem? (i := 47) rfl)
theorem mgw_959 : gw_959 ∈ ri_gT := gi_14 _ (List.mem_of_getElem? (i := 0) rfl)
theorem mgw_960 : gw_960 ∈ ri_gT := gi_14 _ (List.mem_of_getElem? (i := 1) rfl)
theorem mgw_961 : gw_961 ∈ ri_gT := gi_14 _ (List.mem_of_getElem? (i := 2) rfl)
theorem mgw_962 : gw_962 ∈ ri_gT := gi_14 _ (List.mem_of_getElem? (i := 3) rfl)
theorem mgw_963 : gw_963 ∈ ri_gT := gi_14 _ (List.mem_of_getElem? (i := 4) rfl)
theorem mgw_964 : gw_964 ∈ ri_gT := gi_14 _ (List.mem_of_getElem? (i := 5) rfl)
theorem mgw_965 : gw_965 ∈ ri_gT := gi_14 _ (List.mem_of_getElem? (i := 6) rfl)
theorem mgw_966 : gw_966 ∈ ri_gT := gi_14 _ (List.mem_of_getElem? (i := 7) rfl)
theorem mgw_967 : gw_967 ∈ ri_gT := gi_14 _ (List.mem_of_getElem? (i := 8) rfl)
theorem mgw_968 : gw_968 ∈ ri_gT := gi_14 _ (List.mem_of_getElem? (i := 9) rfl)
theorem mgw_969 : gw_969 ∈ ri_gT := gi_14 _ (List.mem_of_getElem? (i := 10) rfl)
theorem mgw_970 : gw_970 ∈ ri_gT := gi_14 _ (List.mem_of_getElem? (i := 11) rfl)
theorem mgw_971 : gw_971 ∈ ri_gT := gi_14 _ (List.mem_of_getElem? (i := 12) rfl)
theorem mgw_972 : gw_972 ∈ ri_gT := gi_14 _ (List.mem_of_getElem? (i := 13) rfl)
theorem mgw_973 : gw_973 ∈ ri_gT := gi_14 _ (List.mem_of_getElem? (i := 14) rfl)
theorem mgw_974 : gw_974 ∈ ri_gT := gi_14 _ (List.mem_of_getElem? (i := 15) rfl)
theorem mgw_975 : gw_975 ∈ ri_gT := gi_14 _ (List.mem_of_getElem? (i := 16) rfl)
theorem mgw_976 : gw_976 ∈ ri_gT := gi_14 _ (List.mem_of_getElem? (i := 17) rfl)
theorem mgw_977 : gw_977 ∈ ri_gT := gi_14 _ (List.mem_of_getElem? (i := 18) rfl)
theorem mgw_978 : gw_978 ∈ ri_gT := gi_14 _ (List.mem_of_getElem? (i := 19) rfl)
theorem mgw_979 : gw_979 ∈ ri_gT := gi_14 _ (List.mem_of_getElem? (i := 20) rfl)
theorem mgw_980 : gw_980 ∈ ri_gT := gi_14 _ (List.mem_of_getElem? (i := 21) rfl)
theorem mgw_981 : gw_981 ∈ ri_gT := gi_14 _ (List.mem_of_getElem? (i := 22) rfl)
theorem mgw_982 : gw_982 ∈ ri_gT := gi_14 _ (List.mem_of_getElem? (i := 23) rfl)
theorem mgw_983 : gw_983 ∈ ri_gT := gi_14 _ (List.mem_of_getElem? (i := 24) rfl)
theorem mgw_985 : gw_985 ∈ ri_gT := gi_14 _ (List.mem_of_getElem? (i := 25) rfl)
theorem mgw_986 : gw_986 ∈ ri_gT := gi_14 _ (List.mem_of_getElem? (i := 26) rfl)
theorem mgw_987 : gw_987 ∈ ri_gT := gi_14 _ (List.mem_of_getElem? (i := 27) rfl)
theorem mgw_988 : gw_988 ∈ ri_gT := gi_14 _ (List.mem_of_getElem? (i := 28) rfl)
theorem mgw_989 : gw_989 ∈ ri_gT := gi_14 _ (List.mem_of_getElem? (i := 29) rfl)
theorem mgw_990 : gw_990 ∈ ri_gT := gi_14 _ (List.mem_of_getElem? (i := 30) rfl)
theorem mgw_991 : gw_991 ∈ ri_gT := gi_14 _ (List.mem_of_getElem? (i := 31) rfl)
theorem mgw_992 : gw_992 ∈ ri_gT := gi_14 _ (List.mem_of_getElem? (i := 32) rfl)
theorem mgw_993 : gw_993 ∈ ri_gT := gi_14 _ (List.mem_of_getElem? (i := 33) rfl)
theorem mgw_995 : gw_995 ∈ ri_gT := gi_14 _ (List.mem_of_getElem? (i := 34) rfl)
theorem mgw_996 : gw_996 ∈ ri_gT := gi_14 _ (List.mem_of_getElem? (i := 35) rfl)
theorem mgw_997 : gw_997 ∈ ri_gT := gi_14 _ (List.mem_of_getElem? (i := 36) rfl)
theorem mgw_999 : gw_999 ∈ ri_gT := gi_14 _ (List.mem_of_getElem? (i := 37) rfl)
theorem mgw_1000 : gw_1000 ∈ ri_gT := gi_14 _ (List.mem_of_getElem? (i := 38) rfl)
theorem mgw_1001 : gw_1001 ∈ ri_gT := gi_14 _ (List.mem_of_getElem? (i := 39) rfl)
theorem mgw_1003 : gw_1003 ∈ ri_gT := gi_14 _ (List.mem_of_getElem? (i := 40) rfl)
theorem mgw_1004 : gw_1004 ∈ ri_gT := gi_14 _ (List.mem_of_getElem? (i := 41) rfl)
theorem mgw_1005 : gw_1005 ∈ ri_gT := gi_14 _ (List.mem_of_getElem? (i := 42) rfl)
theorem mgw_1007 : gw_1007 ∈ ri_gT := gi_14 _ (List.mem_of_getElem? (i := 43) rfl)
theorem mgw_1008 : gw_1008 ∈ ri_gT := gi_14 _ (List.mem_of_getElem? (i := 44) rfl)
theorem mgw_1009 : gw_1009 ∈ ri_gT := gi_14 _ (List.mem_of_getElem? (i := 45) rfl)
theorem mgw_1011 : gw_1011 ∈ ri_gT := gi_14 _ (List.mem_of_getElem? (i := 46) rfl)
theorem mgw_1012 : gw_1012 ∈ ri_gT := gi_14 _ (List.mem_of_getElem? (i := 47) rfl)
theorem mgw_1013 : gw_1013 ∈ ri_gT := gi_15 _ (List.mem_of_getElem? (i := 0) rfl)
theorem mgw_1015 : gw_1015 ∈ ri_gT := gi_15 _ (List.mem_of_getElem? (i := 1) rfl)
theorem mgw_1016 : gw_1016 ∈ ri_gT := gi_15 _ (List.mem_of_getElem? (i := 2) rfl)
theorem mgw_1017 : gw_1017 ∈ ri_gT := gi_15 _ (List.mem_of_getElem? (i := 3) rfl)
theorem mgw_1019 : gw_1019 ∈ ri_gT := gi_15 _ (List.mem_of_getElem? (i := 4) rfl)
theorem mgw_1020 : gw_1020 ∈ ri_gT := gi_15 _ (List.mem_of_getElem? (i := 5) rfl)
theorem mgw_1021 : gw_1021 ∈ ri_gT := gi_15 _ (List.mem_of_getElem? (i := 6) rfl)
theorem mgw_1023 : gw_1023 ∈ ri_gT := gi_15 _ (List.mem_of_getElem? (i := 7) rfl)
theorem mgw_1024 : gw_1024 ∈ ri_gT := gi_15 _ (List.mem_of_getElem? (i := 8) rfl)
theorem mgw_1025 : gw_1025 ∈ ri_gT := gi_15 _ (List.mem_of_getElem? (i := 9) rfl)
theorem mgw_1026 : gw_1026 ∈ ri_gT := gi_15 _ (List.mem_of_getElem? (i := 10) rfl)
theorem mgw_1027 : gw_1027 ∈ ri_gT := gi_15 _ (List.mem_of_getElem? (i := 11) rfl)
theorem mgw_1028 : gw_1028 ∈ ri_gT := gi_15 _ (List.mem_of_getElem? (i := 12) rfl)
theorem mgw_1029 : gw_1029 ∈ ri_gT := gi_15 _ (List.mem_of_getElem? (i := 13) rfl)
theorem mgw_1030 : gw_1030 ∈ ri_gT := gi_15 _ (List.mem_of_getElem? (i := 14) rfl)
theorem mgw_1032 : gw_1032 ∈ ri_gT := gi_15 _ (List.mem_of_getElem? (i := 15) rfl)
theorem mgw_1033 : gw_1033 ∈ ri_gT := gi_15 _ (List.mem_of_getElem? (i := 16) rfl)
theorem mgw_1034 : gw_1034 ∈ ri_gT := gi_15 _ (List.mem_of_getElem? (i := 17) rfl)
theorem mgw_1036 : gw_1036 ∈ ri_gT := gi_15 _ (List.mem_of_getElem? (i := 18) rfl)
theorem mgw_1037 : gw_1037 ∈ ri_gT := gi_15 _ (List.mem_of_getElem? (i := 19) rfl)
theorem mgw_1038 : gw_1038 ∈ ri_gT := gi_15 _ (List.mem_of_getElem? (i := 20) rfl)
theorem mgw_1040 : gw_1040 ∈ ri_gT := gi_15 _ (List.mem_of_getElem? (i := 21) rfl)
theorem mgw_1041 : gw_1041 ∈ ri_gT := gi_15 _ (List.mem_of_getElem? (i := 22) rfl)
theorem mgw_1042 : gw_1042 ∈ ri_gT := gi_15 _ (List.mem_of_getElem? (i := 23) rfl)
theorem mgw_1044 : gw_1044 ∈ ri_gT := gi_15 _ (List.mem_of_getElem? (i := 24) rfl)
theorem mgw_1045 : gw_1045 ∈ ri_gT := gi_15 _ (List.mem_of_getElem? (i := 25) rfl)
theorem mgw_1046 : gw_1046 ∈ ri_gT := gi_15 _ (List.mem_of_getElem? (i := 26) rfl)
theorem mgw_1048 : gw_1048 ∈ ri_gT := gi_15 _ (List.mem_of_getElem? (i := 27) rfl)
theorem mgw_1049 : gw_1049 ∈ ri_gT := gi_15 _ (List.mem_of_getElem? (i := 28) rfl)
theorem mgw_1050 : gw_1050 ∈ ri_gT := gi_15 _ (List.mem_of_getElem? (i := 29) rfl)
theorem mgw_1051 : gw_1051 ∈ ri_gT := gi_15 _ (List.mem_of_getElem? (i := 30) rfl)
theorem mgw_1052 : gw_1052 ∈ ri_gT := gi_15 _ (List.mem_of_getElem? (i := 31) rfl)
theorem mgw_1053 : gw_1053 ∈ ri_gT := gi_15 _ (List.mem_of_getElem? (i := 32) rfl)
theorem mgw_1054 : gw_1054 ∈ ri_gT := gi_15 _ (List.mem_of_getElem? (i := 33) rfl)
theorem mgw_1055 : gw_1055 ∈ ri_gT := gi_15 _ (List.mem_of_getElem? (i := 34) rfl)
theorem mgw_1056 : gw_1056 ∈ ri_gT := gi_15 _ (List.mem_of_getElem? (i := 35) rfl)
theorem mgw_1057 : gw_1057 ∈ ri_gT := gi_15 _ (List.mem_of_getElem? (i := 36) rfl)
theorem mgw_1058 : gw_1058 ∈ ri_gT := gi_15 _ (List.mem_of_getElem? (i := 37) rfl)
theorem mgw_1059 : gw_1059 ∈ ri_gT := gi_15 _ (List.mem_of_getElem? (i := 38) rfl)
theorem mgw_1060 : gw_1060 ∈ ri_gT := gi_15 _ (List.mem_of_getElem? (i := 39) rfl)
theorem mgw_1061 : gw_1061 ∈ ri_gT := gi_15 _ (List.mem_of_getElem? (i := 40) rfl)
theorem mgw_1062 : gw_1062 ∈ ri_gT := gi_15 _ (List.mem_of_getElem? (i := 41) rfl)
theorem mgw_1064 : gw_1064 ∈ ri_gT := gi_15 _ (List.mem_of_getElem? (i := 42) rfl)
theorem mgw_1065 : gw_1065 ∈ ri_gT := gi_15 _ (List.mem_of_getElem? (i := 43) rfl)
theorem mgw_1066 : gw_1066 ∈ ri_gT := gi_15 _ (List.mem_of_getElem? (i := 44) rfl)
theorem mgw_1068 : gw_1068 ∈ ri_gT := gi_15 _ (List.mem_of_getElem? (i := 45) rfl)
theorem mgw_1069 : gw_1069 ∈ ri_gT := gi_15 _ (List.mem_of_getElem? (i := 46) rfl)
theorem mgw_1070 : gw_1070 ∈ ri_gT := gi_15 _ (List.mem_of_getElem? (i := 47) rfl)
theorem mgw_1072 : gw_1072 ∈ ri_gT := gi_16 _ (List.mem_of_getElem? (i := 0) rfl)
theorem mgw_1073 : gw_1073 ∈ ri_gT := gi_16 _ (List.mem_of_getElem? (i := 1) rfl)
theorem mgw_1074 : gw_1074 ∈ ri_gT := gi_16 _ (List.mem_of_getElem? (i := 2) rfl)
theorem mgw_1075 : gw_1075 ∈ ri_gT := gi_16 _ (List.mem_of_getElem? (i := 3) rfl)
theorem mgw_1076 : gw_1076 ∈ ri_gT := gi_16 _ (List.mem_of_getElem? (i := 4) rfl)
theorem mgw_1077 : gw_1077 ∈ ri_gT := gi_16 _ (List.mem_of_getElem? (i := 5) rfl)
theorem mgw_1078 : gw_1078 ∈ ri_gT := gi_16 _ (List.mem_of_getElem? (i := 6) rfl)
theorem mgw_1080 : gw_1080 ∈ ri_gT := gi_16 _ (List.mem_of_getElem? (i := 7) rfl)
theorem mgw_1081 : gw_1081 ∈ ri_gT := gi_16 _ (List.mem_of_getElem? (i := 8) rfl)
theorem mgw_1082 : gw_1082 ∈ ri_gT := gi_16 _ (List.mem_of_getElem? (i := 9) rfl)
theorem mgw_1083 : gw_1083 ∈ ri_gT := gi_16 _ (List.mem_of_getElem? (i := 10) rfl)
theorem mgw_1084 : gw_1084 ∈ ri_gT := gi_16 _ (List.mem_of_getElem? (i := 11) rfl)
theorem mgw_1085 : gw_1085 ∈ ri_gT := gi_16 _ (List.mem_of_getElem? (i := 12) rfl)
theorem mgw_1086 : gw_1086 ∈ ri_gT := gi_16 _ (List.mem_of_getElem? (i := 13) rfl)
theorem mgw_1087 : gw_1087 ∈ ri_gT := gi_16 _ (List.mem_of_getElem? (i := 14) rfl)
theorem mgw_1088 : gw_1088 ∈ ri_gT := gi_16 _ (List.mem_of_getElem? (i := 15) rfl)
theorem mgw_1089 : gw_1089 ∈ ri_gT := gi_16 _ (List.mem_of_getElem? (i := 16) rfl)
theorem mgw_1090 : gw_1090 ∈ ri_gT := gi_16 _ (List.mem_of_getElem? (i := 17) rfl)
theorem mgw_1091 : gw_1091 ∈ ri_gT := gi_16 _ (List.mem_of_getElem? (i := 18) rfl)
theorem mgw_1092 : gw_1092 ∈ ri_gT := gi_16 _ (List.mem_of_getElem? (i := 19) rfl)
theorem mgw_1093 : gw_1093 ∈ ri_gT := gi_16 _ (List.mem_of_getElem? (i := 20) rfl)
theorem mgw_1094 : gw_1094 ∈ ri_gT := gi_16 _ (List.mem_of_getElem? (i := 21) rfl)
theorem mgw_1095 : gw_1095 ∈ ri_gT := gi_16 _ (List.mem_of_getElem? (i := 22) rfl)
theorem mgw_1096 : gw_1096 ∈ ri_gT := gi_16 _ (List.mem_of_getElem? (i := 23) rfl)
theorem mgw_1097 : gw_1097 ∈ ri_gT := gi_16 _ (List.mem_of_getElem? (i := 24) rfl)
theorem mgw_1098 : gw_1098 ∈ ri_gT := gi_16 _ (List.mem_of_getElem? (i := 25) rfl)
theorem mgw_1099 : gw_1099 ∈ ri_gT := gi_16 _ (List.mem_of_getElem? (i := 26) rfl)
theorem mgw_1101 : gw_1101 ∈ ri_gT := gi_16 _ (List.mem_of_getElem? (i := 27) rfl)
theorem mgw_1102 : gw_1102 ∈ ri_gT := gi_16 _ (List.mem_of_getElem? (i := 28) rfl)
theorem mgw_1103 : gw_1103 ∈ ri_gT := gi_16 _ (List.mem_of_getElem? (i := 29) rfl)
theorem mgw_1104 : gw_1104 ∈ ri_gT := gi_16 _ (List.mem_of_getElem? (i := 30) rfl)
theorem mgw_1105 : gw_1105 ∈ ri_gT := gi_16 _ (List.mem_of_getElem? (i := 31) rfl)
theorem mgw_1106 : gw_1106 ∈ ri_gT := gi_16 _ (List.mem_of_getElem? (i := 32) rfl)
theorem mgw_1107 : gw_1107 ∈ ri_gT := gi_16 _ (List.mem_of_getElem? (i := 33) rfl)
theorem mgw_1108 : gw_1108 ∈ ri_gT := gi_16 _ (List.mem_of_getElem? (i := 34) rfl)
theorem mgw_1109 : gw_1109 ∈ ri_gT := gi_16 _ (List.mem_of_getElem? (i := 35) rfl)
theorem mgw_1110 : gw_1110 ∈ ri_gT := gi_16 _ (List.mem_of_getElem? (i := 36) rfl)
theorem mgw_1111 : gw_1111 ∈ ri_gT := gi_16 _ (List.mem_of_getElem? (i := 37) rfl)
theorem mgw_1112 : gw_1112 ∈ ri_gT := gi_16 _ (List.mem_of_getElem? (i := 38) rfl)
theorem mgw_1113 : gw_1113 ∈ ri_gT := gi_16 _ (List.mem_of_getElem? (i := 39) rfl)
theorem mgw_1114 : gw_1114 ∈ ri_gT := gi_16 _ (List.mem_of_getElem? (i := 40) rfl)
theorem mgw_1115 : gw_1115 ∈ ri_gT := gi_16 _ (List.mem_of_getElem? (i := 41) rfl)
theorem mgw_1116 : gw_1116 ∈ ri_gT := gi_16 _ (List.mem_of_getElem? (i := 42) rfl)
theorem mgw_1117 : gw_1117 ∈ ri_gT := gi_16 _ (List.mem_of_getElem? (i := 43) rfl)
theorem mgw_1118 : gw_1118 ∈ ri_gT := gi_16 _ (List.mem_of_getElem? (i := 44) rfl)
theorem mgp_0 : gp_0 ∈ ri_gT := gi_16 _ (List.mem_of_getElem? (i := 45) rfl)
theorem mgp_1 : gp_1 ∈ ri_gT := gi_16 _ (List.mem_of_getElem? (i := 46) rfl)
theorem mgp_2 : gp_2 ∈ ri_gT := gi_16 _ (List.mem_of_getElem? (i := 47) rfl)
theorem mgp_3 : gp_3 ∈ ri_gT := gi_17 _ (List.mem_of_getElem? (i := 0) rfl)
theorem mgp_4 : gp_4 ∈ ri_gT := gi_17 _ (List.mem_of_getElem? (i := 1) rfl)
theorem mgp_5 : gp_5 ∈ ri_gT := gi_17 _ (List.mem_of_getElem? (i := 2) rfl)
theorem mgp_6 : gp_6 ∈ ri_gT := gi_17 _ (List.mem_of_getElem? (i := 3) rfl)
theorem mgp_7 : gp_7 ∈ ri_gT := gi_17 _ (List.mem_of_getElem? (i := 4) rfl)
theorem mgp_8 : gp_8 ∈ ri_gT := gi_17 _ (List.mem_of_getElem? (i := 5) rfl)
theorem mgp_9 : gp_9 ∈ ri_gT := gi_17 _ (List.mem_of_getElem? (i := 6) rfl)
theorem mgp_10 : gp_10 ∈ ri_gT := gi_17 _ (List.mem_of_getElem? (i := 7) rfl)
theorem mgp_11 : gp_11 ∈ ri_gT := gi_17 _ (List.mem_of_getElem? (i := 8) rfl)
theorem mgp_12 : gp_12 ∈ ri_gT := gi_17 _ (List.mem_of_getElem? (i := 9) rfl)
theorem mgp_13 : gp_13 ∈ ri_gT := gi_17 _ (List.mem_of_getElem? (i := 10) rfl)
theorem mgp_14 : gp_14 ∈ ri_gT := gi_17 _ (List.mem_of_getElem? (i := 11) rfl)
theorem mgp_15 : gp_15 ∈ ri_gT := gi_17 _ (List.mem_of_getElem? (i := 12) rfl)
theorem mgp_16 : gp_16 ∈ ri_gT := gi_17 _ (List.mem_of_getElem? (i := 13) rfl)
theorem mgp_17 : gp_17 ∈ ri_gT := gi_17 _ (List.mem_of_getElem? (i := 14) rfl)
theorem mgp_18 : gp_18 ∈ ri_gT := gi_17 _ (List.mem_of_getElem? (i := 15) rfl)
theorem mgp_19 : gp_19 ∈ ri_gT := gi_17 _ (List.mem_of_getElem? (i := 16) rfl)
theorem mgp_20 : gp_20 ∈ ri_gT := gi_17 _ (List.mem_of_getElem? (i := 17) rfl)
theorem mgp_21 : gp_21 ∈ ri_gT := gi_17 _ (List.mem_of_getElem? (i := 18) rfl)
theorem mgp_22 : gp_22 ∈ ri_gT := gi_17 _ (List.mem_of_getElem? (i := 19) rfl)
theorem mgp_23 : gp_23 ∈ ri_gT := gi_17 _ (List.mem_of_getElem? (i := 20) rfl)
theorem mgp_24 : gp_24 ∈ ri_gT := gi_17 _ (List.mem_of_getElem? (i := 21) rfl)
theorem mgp_25 : gp_25 ∈ ri_gT := gi_17 _ (List.mem_of_getElem? (i := 22) rfl)
theorem mgp_26 : gp_26 ∈ ri_gT := gi_17 _ (List.mem_of_getElem? (i := 23) rfl)
theorem mgp_27 : gp_27 ∈ ri_gT := gi_17 _ (List.mem_of_getElem? (i := 24) rfl)
theorem mgp_28 : gp_28 ∈ ri_gT := gi_17 _ (List.mem_of_getElem? (i := 25) rfl)
theorem mgp_29 : gp_29 ∈ ri_gT := gi_17 _ (List.mem_of_getElem? (i := 26) rfl)
theorem mgp_30 : gp_30 ∈ ri_gT := gi_17 _ (List.mem_of_getElem? (i := 27) rfl)
theorem mgp_31 : gp_31 ∈ ri_gT := gi_17 _ (List.mem_of_getElem? (i := 28) rfl)
theorem mgp_32 : gp_32 ∈ ri_gT := gi_17 _ (List.mem_of_getElem? (i := 29) rfl)
theorem mgp_33 : gp_33 ∈ ri_gT := gi_17 _ (List.mem_of_getElem? (i := 30) rfl)
theorem mgp_34 : gp_34 ∈ ri_gT := gi_17 _ (List.mem_of_getElem? (i := 31) rfl)
theorem mgp_35 : gp_35 ∈ ri_gT := gi_17 _ (List.mem_of_getElem? (i := 32) rfl)
theorem mgp_36 : gp_36 ∈ ri_gT := gi_17 _ (List.mem_of_getElem? (i := 33) rfl)
theorem mgp_37 : gp_37 ∈ ri_gT := gi_17 _ (List.mem_of_getElem? (i := 34) rfl)
theorem mgp_38 : gp_38 ∈ ri_gT := gi_17 _ (List.mem_of_getElem? (i := 35) rfl)
theorem mgp_39 : gp_39 ∈ ri_gT := gi_17 _ (List.mem_of_getElem? (i := 36) rfl)
theorem mgp_40 : gp_40 ∈ ri_gT := gi_17 _ (List.mem_of_getElem? (i := 37) rfl)
theorem mgp_41 : gp_41 ∈ ri_gT := gi_17 _ (List.mem_of_getElem? (i := 38) rfl)
theorem mgp_42 : gp_42 ∈ ri_gT := gi_17 _ (List.mem_of_getElem? (i := 39) rfl)
theorem mgp_43 : gp_43 ∈ ri_gT := gi_17 _ (List.mem_of_getElem? (i := 40) rfl)
theorem mgp_44 : gp_44 ∈ ri_gT := gi_17 _ (List.mem_of_getElem? (i := 41) rfl)
theorem mgp_45 : gp_45 ∈ ri_gT := gi_17 _ (List.mem_of_getElem? (i := 42) rfl)
theorem mgp_46 : gp_46 ∈ ri_gT := gi_17 _ (List.mem_of_getElem? (i := 43) rfl)
theorem mgp_47 : gp_47 ∈ ri_gT := gi_17 _ (List.mem_of_getElem? (i := 44) rfl)
theorem mgp_48 : gp_48 ∈ ri_gT := gi_17 _ (List.mem_of_getElem? (i := 45) rfl)
theorem mgp_49 : gp_49 ∈ ri_gT := gi_17 _ (List.mem_of_getElem? (i := 46) rfl)
theorem mgp_50 : gp_50 ∈ ri_gT := gi_17 _ (List.mem_of_getElem? (i := 47) rfl)
theorem mgp_51 : gp_51 ∈ ri_gT := gi_18 _ (List.mem_of_getElem? (i := 0) rfl)
theorem mgp_52 : gp_52 ∈ ri_gT := gi_18 _ (List.mem_of_getElem? (i := 1) rfl)
theorem mgp_53 : gp_53 ∈ ri_gT := gi_18 _ (List.mem_of_getElem? (i := 2) rfl)
theorem mgp_54 : gp_54 ∈ ri_gT := gi_18 _ (List.mem_of_getElem? (i := 3) rfl)
theorem mgp_55 : gp_55 ∈ ri_gT := gi_18 _ (List.mem_of_getElem? (i := 4) rfl)
theorem mgp_56 : gp_56 ∈ ri_gT := gi_18 _ (List.mem_of_getElem? (i := 5) rfl)
theorem mgp_57 : gp_57 ∈ ri_gT := gi_18 _ (List.mem_of_getElem? (i := 6) rfl)
theorem mgp_58 : gp_58 ∈ ri_gT := gi_18 _ (List.mem_of_getElem? (i := 7) rfl)
theorem mgp_59 : gp_59 ∈ ri_gT := gi_18 _ (List.mem_of_getElem? (i := 8) rfl)
theorem mgp_60 : gp_60 ∈ ri_gT := gi_18 _ (List.mem_of_getElem? (i := 9) rfl)
theorem mgp_61 : gp_61 ∈ ri_gT := gi_18 _ (List.mem_of_getElem? (i := 10) rfl)
theorem mgp_62 : gp_62 ∈ ri_gT := gi_18 _ (List.mem_of_getElem? (i := 11) rfl)
theorem mgp_63 : gp_63 ∈ ri_gT := gi_18 _ (List.mem_of_getElem? (i := 12) rfl)
theorem mgp_64 : gp_64 ∈ ri_gT := gi_18 _ (List.mem_of_getElem? (i := 13) rfl)
theorem mgp_65 : gp_65 ∈ ri_gT := gi_18 _ (List.mem_of_getElem? (i := 14) rfl)
theorem mgp_66 : gp_66 ∈ ri_gT := gi_18 _ (List.mem_of_getElem? (i := 15) rfl)
theorem mgp_67 : gp_67 ∈ ri_gT := gi_18 _ (List.mem_of_getElem? (i := 16) rfl)
theorem mgp_68 : gp_68 ∈ ri_gT := gi_18 _ (List.mem_of_getElem? (i := 17) rfl)
theorem mgp_69 : gp_69 ∈ ri_gT := gi_18 _ (List.mem_of_getElem? (i := 18) rfl)
theorem mgp_70 : gp_70 ∈ ri_gT := gi_18 _ (List.mem_of_getElem? (i := 19) rfl)
theorem mgp_71 : gp_71 ∈ ri_gT := gi_18 _ (List.mem_of_getElem? (i := 20) rfl)
theorem mgp_72 : gp_72 ∈ ri_gT := gi_18 _ (List.mem_of_getElem? (i := 21) rfl)
theorem mgp_73 : gp_73 ∈ ri_gT := gi_18 _ (List.mem_of_getElem? (i := 22) rfl)
theorem mgp_74 : gp_74 ∈ ri_gT := gi_18 _ (List.mem_of_getElem? (i := 23) rfl)
theorem mgp_75 : gp_75 ∈ ri_gT := gi_18 _ (List.mem_of_getElem? (i := 24) rfl)
theorem mgp_76 : gp_76 ∈ ri_gT := gi_18 _ (List.mem_of_getElem? (i := 25) rfl)
theorem mgp_77 : gp_77 ∈ ri_gT := gi_18 _ (List.mem_of_getElem? (i := 26) rfl)
theorem mgp_78 : gp_78 ∈ ri_gT := gi_18 _ (List.mem_of_getElem? (i := 27) rfl)
theorem mgp_79 : gp_79 ∈ ri_gT := gi_18 _ (List.mem_of_getElem? (i := 28) rfl)
theorem mgp_80 : gp_80 ∈ ri_gT := gi_18 _ (List.mem_of_getElem? (i := 29) rfl)
theorem mgp_81 : gp_81 ∈ ri_gT := gi_18 _ (List.mem_of_getElem? (i := 30) rfl)
theorem mgp_82 : gp_82 ∈ ri_gT := gi_18 _ (List.mem_of_getElem? (i := 31) rfl)
theorem mgp_83 : gp_83 ∈ ri_gT := gi_18 _ (List.mem_of_getElem? (i := 32) rfl)
theorem mgp_84 : gp_84 ∈ ri_gT := gi_18 _ (List.mem_of_getElem? (i := 33) rfl)
theorem mgp_85 : gp_85 ∈ ri_gT := gi_18 _ (List.mem_of_getElem? (i := 34) rfl)
theorem mgp_86 : gp_86 ∈ ri_gT := gi_18 _ (List.mem_of_getElem? (i := 35) rfl)
theorem mgp_87 : gp_87 ∈ ri_gT := gi_18 _ (List.mem_of_getElem? (i := 36) rfl)
theorem mgp_88 : gp_88 ∈ ri_gT := gi_18 _ (List.mem_of_getElem? (i := 37) rfl)
theorem mgp_89 : gp_89 ∈ ri_gT := gi_18 _ (List.mem_of_getElem? (i := 38) rfl)
theorem mgp_90 : gp_90 ∈ ri_gT := gi_18 _ (List.mem_of_getElem? (i := 39) rfl)
theorem mgp_91 : gp_91 ∈ ri_gT := gi_18 _ (List.mem_of_getElem? (i := 40) rfl)
theorem mgp_92 : gp_92 ∈ ri_gT := gi_18 _ (List.mem_of_getElem? (i := 41) rfl)
theorem mgp_93 : gp_93 ∈ ri_gT := gi_18 _ (List.mem_of_getElem? (i := 42) rfl)
theorem mgp_94 : gp_94 ∈ ri_gT := gi_18 _ (List.mem_of_getElem? (i := 43) rfl)
theorem mgp_95 : gp_95 ∈ ri_gT := gi_18 _ (List.mem_of_getElem? (i := 44) rfl)
theorem mgp_96 : gp_96 ∈ ri_gT := gi_18 _ (List.mem_of_getElem? (i := 45) rfl)
