abbrev c9_init : ByteArray := prog_1_method_1_code
abbrev y9_init : MethodName := ⟨"ChoraleSearch", "<init>", "()V"⟩
def w9_init : List Cond := Cond.code y9_init c9_init 3 none :: ri_gT
abbrev r9_init : Room := { frames := 3, cells := 100, slots := 43636, locals := 71 }
def p9_init : Nat → Nat := fun i => ([0, 1, 4, 5, 8, 9, 12, 15, 16, 19, 20, 23, 26, 29, 30, 31, 34, 35, 38, 41, 42, 45, 46, 47, 50, 53, 54, 55, 58, 59, 60, 63, 64, 67, 70, 71, 74, 75, 76, 79, 80, 83, 84, 85, 88, 91, 92, 95, 96, 97, 100, 101, 104, 105, 108, 109, 110, 113, 114, 117, 120, 123, 126] : List Nat).getD i 0
abbrev c0_init : ByteArray := prog_8_method_1_code
abbrev y0_init : MethodName := ⟨"ChoraleSearch$Score", "<init>", "()V"⟩
def w0_init : List Cond := Cond.code y0_init c0_init 1 none :: ri_gT
abbrev r0_init : Room := { frames := 1, cells := 7, slots := 129, locals := 23 }
def p0_init : Nat → Nat := fun i => ([0, 1, 4, 5, 6, 9, 10, 13, 16, 17, 19, 21, 24, 25, 27, 29, 32, 33, 35, 37, 40, 41, 43, 45, 48, 49, 51, 53, 54, 55, 56, 57, 58, 59, 60, 61, 62, 63, 64, 65, 66, 67, 68, 69, 70, 71, 72, 73, 74, 75, 76, 77, 78, 80, 81, 82, 83, 85, 86, 87, 88, 90, 91, 92, 95, 96, 97, 99, 100, 101, 103, 104, 105, 106, 108, 109, 110, 111, 113, 114, 115, 116, 118, 119, 122, 123, 124, 126, 127, 128, 130, 131, 132, 133, 135, 136, 137, 138, 140, 141, 142, 143, 145, 146, 149, 150, 151, 154] : List Nat).getD i 0
abbrev c0_clearFrom : ByteArray := prog_8_method_2_code
abbrev y0_clearFrom : MethodName := ⟨"ChoraleSearch$Score", "clearFrom", "(I)V"⟩
def w0_clearFrom : List Cond := Cond.code y0_clearFrom c0_clearFrom 4 none :: ri_gT
abbrev r0_clearFrom : Room := { frames := 0, cells := 0, slots := 0, locals := 0 }
def p0_clearFrom : Nat → Nat := fun i => ([0, 1, 2, 3, 5, 8, 9, 10, 11, 12, 15, 16, 19, 20, 21, 22, 23, 24, 26, 27, 30, 33, 34, 37, 38, 40, 41, 42, 45, 46, 48, 49, 50, 53, 54, 55, 56, 59, 62] : List Nat).getD i 0
abbrev c1_init : ByteArray := prog_4_method_1_code
abbrev y1_init : MethodName := ⟨"ChoraleSearch$Harmony", "<init>", "()V"⟩
def w1_init : List Cond := Cond.code y1_init c1_init 3 none :: ri_gT
abbrev r1_init : Room := { frames := 2, cells := 4, slots := 380, locals := 49 }
def p1_init : Nat → Nat := fun i => ([0, 1, 4, 5, 7, 9, 12, 13, 15, 17, 20, 21, 23, 25, 28, 29, 32, 34, 37, 38, 39, 40, 42, 45, 46, 47, 48, 50, 53, 54, 57, 58, 60, 61, 62, 63, 64, 65, 68, 69, 72, 75, 78, 81, 82, 83, 84, 87] : List Nat).getD i 0
abbrev c1_grammar : ByteArray := prog_4_method_4_code
abbrev y1_grammar : MethodName := ⟨"ChoraleSearch$Harmony", "grammar", "(II)I"⟩
def w1_grammar : List Cond := Cond.code y1_grammar c1_grammar 2 (some .int) :: ri_gT
abbrev r1_grammar : Room := { frames := 1, cells := 0, slots := 0, locals := 21 }
def p1_grammar : Nat → Nat := fun i => ([0, 1, 2, 5, 6, 7, 10, 11, 12, 40, 43, 44, 45, 48, 49, 52, 53, 54, 55, 56, 59, 60, 61, 62, 65, 66, 67, 68, 71] : List Nat).getD i 0
abbrev c1_fromSubdominant : ByteArray := prog_4_method_5_code
abbrev y1_fromSubdominant : MethodName := ⟨"ChoraleSearch$Harmony", "fromSubdominant", "(II)I"⟩
def w1_fromSubdominant : List Cond := Cond.code y1_fromSubdominant c1_fromSubdominant 2 (some .int) :: ri_gT
abbrev r1_fromSubdominant : Room := { frames := 0, cells := 0, slots := 0, locals := 0 }
def p1_fromSubdominant : Nat → Nat := fun i => ([0, 3, 4, 5, 32, 33, 34, 37, 38, 41, 42, 45, 46, 47, 48, 49, 50, 51, 52] : List Nat).getD i 0
abbrev c1_fromDominant : ByteArray := prog_4_method_6_code
abbrev y1_fromDominant : MethodName := ⟨"ChoraleSearch$Harmony", "fromDominant", "(II)I"⟩
def w1_fromDominant : List Cond := Cond.code y1_fromDominant c1_fromDominant 2 (some .int) :: ri_gT
abbrev r1_fromDominant : Room := { frames := 0, cells := 0, slots := 0, locals := 0 }
def p1_fromDominant : Nat → Nat := fun i => ([0, 1, 68, 69, 70, 71, 72, 73, 75, 78, 79, 82, 83, 84, 85, 86, 87] : List Nat).getD i 0
abbrev c1_fromApplied : ByteArray := prog_4_method_7_code
abbrev y1_fromApplied : MethodName := ⟨"ChoraleSearch$Harmony", "fromApplied", "(II)I"⟩
def w1_fromApplied : List Cond := Cond.code y1_fromApplied c1_fromApplied 2 (some .int) :: ri_gT
abbrev r1_fromApplied : Room := { frames := 0, cells := 0, slots := 0, locals := 0 }
def p1_fromApplied : Nat → Nat := fun i => ([0, 1, 28, 29, 31, 34, 35, 38, 39, 40, 43, 44, 46, 49, 50, 53, 54, 55, 56, 57, 60, 61, 63, 66, 67, 70, 71, 72, 73, 74, 77, 78, 81, 82, 83, 84, 85, 88, 89, 92, 93] : List Nat).getD i 0
abbrev c1_tune : ByteArray := prog_4_method_2_code
abbrev y1_tune : MethodName := ⟨"ChoraleSearch$Harmony", "tune", "(II)V"⟩
def w1_tune : List Cond := Cond.code y1_tune c1_tune 5 none :: ri_gT
abbrev r1_tune : Room := { frames := 1, cells := 0, slots := 0, locals := 25 }
def p1_tune : Nat → Nat := fun i => ([0, 1, 2, 5, 6, 7, 10, 11, 12, 15, 17, 18, 20, 21, 24, 25, 28, 29, 32, 33, 36, 37, 40, 41, 42, 43, 45, 48, 49, 51, 53, 54, 57, 58, 59, 61, 64, 67, 70, 73, 76] : List Nat).getD i 0
abbrev c15_fill : ByteArray := prog_16_method_103_code
abbrev y15_fill : MethodName := ⟨"java/util/Arrays", "fill", "([II)V"⟩
def w15_fill : List Cond := Cond.code y15_fill c15_fill 4 none :: ri_gT
abbrev r15_fill : Room := { frames := 0, cells := 0, slots := 0, locals := 0 }
def p15_fill : Nat → Nat := fun i => ([0, 1, 2, 3, 4, 5, 6, 7, 10, 11, 12, 13, 14, 17, 20] : List Nat).getD i 0
abbrev c1_tuneMember : ByteArray := prog_4_method_3_code
abbrev y1_tuneMember : MethodName := ⟨"ChoraleSearch$Harmony", "tuneMember", "(II)V"⟩
def w1_tuneMember : List Cond := Cond.code y1_tuneMember c1_tuneMember 6 none :: ri_gT
abbrev r1_tuneMember : Room := { frames := 0, cells := 0, slots := 0, locals := 0 }
def p1_tuneMember : Nat → Nat := fun i => ([0, 1, 2, 3, 4, 5, 6, 7, 10, 11, 14, 17, 18, 19, 22, 25, 26, 27, 29, 31, 33, 36, 37, 40, 41, 43, 44, 45, 46, 49, 51, 52, 54, 55, 57, 58, 61, 62, 64, 65, 66, 69, 70, 72, 73, 75, 76, 77, 78, 79, 80, 81, 82, 83, 84, 87, 89, 90, 91, 92, 93, 94, 95, 96] : List Nat).getD i 0
abbrev c2_init : ByteArray := prog_9_method_1_code
abbrev y2_init : MethodName := ⟨"ChoraleSearch$StateRules", "<init>", "(LChoraleSearch$Score;LChoraleSearch$Harmony;)V"⟩
def w2_init : List Cond := Cond.code y2_init c2_init 3 none :: ri_gT
abbrev r2_init : Room := { frames := 1, cells := 3, slots := 12, locals := 20 }
def p2_init : Nat → Nat := fun i => ([0, 1, 4, 5, 6, 8, 11, 12, 13, 15, 18, 19, 20, 22, 25, 26, 27, 30, 31, 32, 35] : List Nat).getD i 0
abbrev c3_init : ByteArray := prog_10_method_1_code
abbrev y3_init : MethodName := ⟨"ChoraleSearch$StepRules", "<init>", "(LChoraleSearch$Harmony;)V"⟩
def w3_init : List Cond := Cond.code y3_init c3_init 2 none :: ri_gT
abbrev r3_init : Room := { frames := 1, cells := 2, slots := 8, locals := 20 }
def p3_init : Nat → Nat := fun i => ([0, 1, 4, 5, 6, 8, 11, 12, 13, 15, 18, 19, 20, 23] : List Nat).getD i 0
abbrev c4_init : ByteArray := prog_11_method_1_code
abbrev y4_init : MethodName := ⟨"ChoraleSearch$Table", "<init>", "(LChoraleSearch$Score;LChoraleSearch$StateRules;)V"⟩
def w4_init : List Cond := Cond.code y4_init c4_init 4 none :: ri_gT
abbrev r4_init : Room := { frames := 2, cells := 49, slots := 12864, locals := 40 }
def p4_init : Nat → Nat := fun i => ([0, 1, 4, 5, 7, 10, 13, 14, 15, 18, 19, 20, 23, 24, 25, 26, 28, 31, 32, 35, 36, 39, 40, 43, 44, 47, 50] : List Nat).getD i 0
abbrev c5_init : ByteArray := prog_5_method_1_code
abbrev y5_init : MethodName := ⟨"ChoraleSearch$Layer", "<init>", "()V"⟩
def w5_init : List Cond := Cond.code y5_init c5_init 1 none :: ri_gT
abbrev r5_init : Room := { frames := 1, cells := 2, slots := 800, locals := 20 }
def p5_init : Nat → Nat := fun i => ([0, 1, 4, 5, 8, 10, 13, 14, 17, 19, 22] : List Nat).getD i 0
abbrev c6_init : ByteArray := prog_6_method_1_code
abbrev y6_init : MethodName := ⟨"ChoraleSearch$Reach", "<init>", "(LChoraleSearch$Score;LChoraleSearch$Table;LChoraleSearch$StateRules;LChoraleSearch$StepRules;)V"⟩
def w6_init : List Cond := Cond.code y6_init c6_init 5 none :: ri_gT
abbrev r6_init : Room := { frames := 2, cells := 3, slots := 803, locals := 40 }
def p6_init : Nat → Nat := fun i => ([0, 1, 4, 5, 8, 9, 12, 15, 16, 17, 20, 21, 22, 25, 26, 27, 30, 31, 33, 36] : List Nat).getD i 0
abbrev c7_init : ByteArray := prog_3_method_1_code
abbrev y7_init : MethodName := ⟨"ChoraleSearch$Costs", "<init>", "(LChoraleSearch$Score;LChoraleSearch$Harmony;)V"⟩
def w7_init : List Cond := Cond.code y7_init c7_init 3 none :: ri_gT
abbrev r7_init : Room := { frames := 1, cells := 0, slots := 0, locals := 20 }
def p7_init : Nat → Nat := fun i => ([0, 1, 4, 5, 6, 9, 10, 11, 14] : List Nat).getD i 0
abbrev c8_init : ByteArray := prog_7_method_1_code
abbrev y8_init : MethodName := ⟨"ChoraleSearch$RowSearch", "<init>", "(LChoraleSearch$Score;LChoraleSearch$Table;LChoraleSearch$StepRules;LChoraleSearch$Costs;)V"⟩
def w8_init : List Cond := Cond.code y8_init c8_init 5 none :: ri_gT
abbrev r8_init : Room := { frames := 1, cells := 24, slots := 29388, locals := 20 }
def p8_init : Nat → Nat := fun i => ([0, 1, 4, 5, 7, 10, 14, 17, 18, 21, 23, 26, 27, 30, 32, 35, 36, 39, 41, 44, 45, 47, 49, 52, 53, 54, 56, 59, 60, 61, 63, 66, 67, 69, 71, 74, 75, 76, 79, 80, 81, 84, 85, 86, 89, 90, 92, 95] : List Nat).getD i 0
abbrev c9_key : ByteArray := prog_1_method_2_code
abbrev y9_key : MethodName := ⟨"ChoraleSearch", "key", "(II)I"⟩
def w9_key : List Cond := Cond.code y9_key c9_key 3 (some .int) :: ri_gT
abbrev r9_key : Room := { frames := 2, cells := 0, slots := 0, locals := 49 }
def p9_key : Nat → Nat := fun i => ([0, 1, 4, 5, 7, 10, 11, 14, 15, 16, 19, 20, 21, 22, 25, 26, 27, 30, 31, 34, 35] : List Nat).getD i 0
abbrev c9_forgetFound : ByteArray := prog_1_method_29_code
abbrev y9_forgetFound : MethodName := ⟨"ChoraleSearch", "forgetFound", "()V"⟩
def w9_forgetFound : List Cond := Cond.code y9_forgetFound c9_forgetFound 1 none :: ri_gT
abbrev r9_forgetFound : Room := { frames := 1, cells := 0, slots := 0, locals := 20 }
def p9_forgetFound : Nat → Nat := fun i => ([0, 1, 4, 7, 8, 11, 14] : List Nat).getD i 0
abbrev c8_forget : ByteArray := prog_7_method_2_code
abbrev y8_forget : MethodName := ⟨"ChoraleSearch$RowSearch", "forget", "()V"⟩
def w8_forget : List Cond := Cond.code y8_forget c8_forget 1 none :: ri_gT
abbrev r8_forget : Room := { frames := 0, cells := 0, slots := 0, locals := 0 }
def p8_forget : Nat → Nat := fun i => ([0, 1, 2, 5, 6, 7, 10] : List Nat).getD i 0
abbrev c4_spoil : ByteArray := prog_11_method_2_code
abbrev y4_spoil : MethodName := ⟨"ChoraleSearch$Table", "spoil", "()V"⟩
def w4_spoil : List Cond := Cond.code y4_spoil c4_spoil 1 none :: ri_gT
abbrev r4_spoil : Room := { frames := 0, cells := 0, slots := 0, locals := 0 }
def p4_spoil : Nat → Nat := fun i => ([0, 1, 2, 5] : List Nat).getD i 0
abbrev c9_places : ByteArray := prog_1_method_3_code
abbrev y9_places : MethodName := ⟨"ChoraleSearch", "places", "(I)I"⟩
def w9_places : List Cond := Cond.code y9_places c9_places 3 (some .int) :: ri_gT
abbrev r9_places : Room := { frames := 2, cells := 0, slots := 0, locals := 40 }
def p9_places : Nat → Nat := fun i => ([0, 1, 2, 5, 6, 8, 11, 12, 13, 14, 17, 20, 21, 22, 25, 26, 29, 30, 33, 34, 37, 38, 41, 42] : List Nat).getD i 0
abbrev c9_given : ByteArray := prog_1_method_4_code
abbrev y9_given : MethodName := ⟨"ChoraleSearch", "given", "(III)I"⟩
def w9_given : List Cond := Cond.code y9_given c9_given 4 (some .int) :: ri_gT
abbrev r9_given : Room := { frames := 3, cells := 0, slots := 0, locals := 65 }
def p9_given : Nat → Nat := fun i => ([0, 1, 4, 7, 8, 9, 12, 15, 16, 19, 22, 23, 24, 25, 26, 27, 28, 31] : List Nat).getD i 0
abbrev c9_isVoice : ByteArray := prog_1_method_23_code
abbrev y9_isVoice : MethodName := ⟨"ChoraleSearch", "isVoice", "(I)Z"⟩
def w9_isVoice : List Cond := Cond.code y9_isVoice c9_isVoice 1 (some .boolean) :: ri_gT
abbrev r9_isVoice : Room := { frames := 0, cells := 0, slots := 0, locals := 0 }
def p9_isVoice : Nat → Nat := fun i => ([0, 1, 4, 5, 6, 9, 10, 13, 14] : List Nat).getD i 0
abbrev c9_isPlace : ByteArray := prog_1_method_26_code
abbrev y9_isPlace : MethodName := ⟨"ChoraleSearch", "isPlace", "(I)Z"⟩
def w9_isPlace : List Cond := Cond.code y9_isPlace c9_isPlace 2 (some .boolean) :: ri_gT
abbrev r9_isPlace : Room := { frames := 0, cells := 0, slots := 0, locals := 0 }
def p9_isPlace : Nat → Nat := fun i => ([0, 1, 4, 5, 6, 9, 12, 15, 16, 19, 20] : List Nat).getD i 0
abbrev c9_isPitch : ByteArray := prog_1_method_25_code
abbrev y9_isPitch : MethodName := ⟨"ChoraleSearch", "isPitch", "(I)Z"⟩
def w9_isPitch : List Cond := Cond.code y9_isPitch c9_isPitch 1 (some .boolean) :: ri_gT
abbrev r9_isPitch : Room := { frames := 0, cells := 0, slots := 0, locals := 0 }
def p9_isPitch : Nat → Nat := fun i => ([0, 1, 3, 6, 7, 9, 12, 13, 16, 17] : List Nat).getD i 0
abbrev c9_setPitch : ByteArray := prog_1_method_28_code
abbrev y9_setPitch : MethodName := ⟨"ChoraleSearch", "setPitch", "(III)I"⟩
def w9_setPitch : List Cond := Cond.code y9_setPitch c9_setPitch 6 (some .int) :: ri_gT
abbrev r9_setPitch : Room := { frames := 2, cells := 0, slots := 0, locals := 40 }
def p9_setPitch : Nat → Nat := fun i => ([0, 1, 2, 3, 4, 5, 7, 8, 11, 14, 16, 17, 19, 20, 23, 26, 28, 29, 30, 31, 34, 36] : List Nat).getD i 0
abbrev c9_free : ByteArray := prog_1_method_5_code
abbrev y9_free : MethodName := ⟨"ChoraleSearch", "free", "(II)I"⟩
def w9_free : List Cond := Cond.code y9_free c9_free 3 (some .int) :: ri_gT
abbrev r9_free : Room := { frames := 3, cells := 0, slots := 0, locals := 65 }
def p9_free : Nat → Nat := fun i => ([0, 1, 4, 7, 8, 9, 12, 15, 16, 17, 18, 19, 20, 22, 25] : List Nat).getD i 0
abbrev c9_figure : ByteArray := prog_1_method_6_code
abbrev y9_figure : MethodName := ⟨"ChoraleSearch", "figure", "(II)I"⟩
def w9_figure : List Cond := Cond.code y9_figure c9_figure 4 (some .int) :: ri_gT
abbrev r9_figure : Room := { frames := 2, cells := 0, slots := 0, locals := 40 }
def p9_figure : Nat → Nat := fun i => ([0, 1, 2, 5, 8, 9, 10, 13, 14, 16, 19, 20, 21, 22, 25, 28, 29, 30, 31, 32, 35, 38, 39, 40, 41, 44, 46, 49, 50, 51, 52, 55, 56] : List Nat).getD i 0
abbrev c9_inversion : ByteArray := prog_1_method_7_code
abbrev y9_inversion : MethodName := ⟨"ChoraleSearch", "inversion", "(II)I"⟩
def w9_inversion : List Cond := Cond.code y9_inversion c9_inversion 4 (some .int) :: ri_gT
abbrev r9_inversion : Room := { frames := 2, cells := 0, slots := 0, locals := 40 }
def p9_inversion : Nat → Nat := fun i => ([0, 1, 2, 5, 8, 9, 10, 13, 14, 15, 18, 19, 20, 21, 24, 27, 28, 29, 30, 31, 34, 37, 38, 39, 40, 43, 45, 48, 49, 50, 51, 54, 55] : List Nat).getD i 0
abbrev c9_fermata : ByteArray := prog_1_method_8_code
abbrev y9_fermata : MethodName := ⟨"ChoraleSearch", "fermata", "(IZ)I"⟩
def w9_fermata : List Cond := Cond.code y9_fermata c9_fermata 4 (some .int) :: ri_gT
abbrev r9_fermata : Room := { frames := 2, cells := 0, slots := 0, locals := 40 }
def p9_fermata : Nat → Nat := fun i => ([0, 1, 2, 5, 8, 9, 10, 11, 14, 17, 18, 19, 22, 23, 26, 27, 28, 29, 32, 35, 36, 37, 38, 39, 42, 43] : List Nat).getD i 0
abbrev c9_style : ByteArray := prog_1_method_9_code
abbrev y9_style : MethodName := ⟨"ChoraleSearch", "style", "(IZ)I"⟩
def w9_style : List Cond := Cond.code y9_style c9_style 5 (some .int) :: ri_gT
abbrev r9_style : Room := { frames := 2, cells := 0, slots := 0, locals := 40 }
def p9_style : Nat → Nat := fun i => ([0, 1, 4, 7, 8, 9, 10, 13, 16, 17, 18, 19, 20, 21, 22, 23, 24, 26, 27, 30, 31, 34, 35, 38, 41, 43, 44, 47, 48, 51, 54, 56, 57, 58, 59, 62, 63, 66, 67] : List Nat).getD i 0
abbrev c9_isChord : ByteArray := prog_1_method_24_code
abbrev y9_isChord : MethodName := ⟨"ChoraleSearch", "isChord", "(I)Z"⟩
def w9_isChord : List Cond := Cond.code y9_isChord c9_isChord 1 (some .boolean) :: ri_gT
abbrev r9_isChord : Room := { frames := 0, cells := 0, slots := 0, locals := 0 }
def p9_isChord : Nat → Nat := fun i => ([0, 1, 4, 5, 7, 10, 11, 14, 15] : List Nat).getD i 0
abbrev c9_cost : ByteArray := prog_1_method_10_code
abbrev y9_cost : MethodName := ⟨"ChoraleSearch", "cost", "(II)I"⟩
def w9_cost : List Cond := Cond.code y9_cost c9_cost 4 (some .int) :: ri_gT
abbrev r9_cost : Room := { frames := 2, cells := 0, slots := 0, locals := 40 }
def p9_cost : Nat → Nat := fun i => ([0, 1, 4, 5, 7, 10, 11, 14, 15, 18, 21, 22, 23, 24, 27, 30, 31, 32, 33, 34, 37, 40, 41, 42, 43, 44, 47, 48] : List Nat).getD i 0
abbrev c9_range : ByteArray := prog_1_method_11_code
abbrev y9_range : MethodName := ⟨"ChoraleSearch", "range", "(III)I"⟩
def w9_range : List Cond := Cond.code y9_range c9_range 4 (some .int) :: ri_gT
abbrev r9_range : Room := { frames := 2, cells := 0, slots := 0, locals := 40 }
def p9_range : Nat → Nat := fun i => ([0, 1, 4, 7, 8, 11, 14, 15, 18, 21, 22, 23, 26, 27, 28, 29, 32, 35, 36, 37, 38, 39, 42, 45, 46, 47, 48, 49, 52, 53] : List Nat).getD i 0
abbrev c9_solve : ByteArray := prog_1_method_12_code
abbrev y9_solve : MethodName := ⟨"ChoraleSearch", "solve", "(I)I"⟩
def w9_solve : List Cond := Cond.code y9_solve c9_solve 2 (some .int) :: ri_gT
abbrev r9_solve : Room := { frames := 6, cells := 0, slots := 0, locals := 153 }
def p9_solve : Nat → Nat := fun i => ([0, 1, 4, 5, 7, 10, 11, 12, 13, 16, 19, 20, 23, 26, 29, 31, 32, 33, 36, 37, 40, 41, 44, 47] : List Nat).getD i 0
abbrev c4_prepare : ByteArray := prog_11_method_3_code
abbrev y4_prepare : MethodName := ⟨"ChoraleSearch$Table", "prepare", "()V"⟩
def w4_prepare : List Cond := Cond.code y4_prepare c4_prepare 2 none :: ri_gT
abbrev r4_prepare : Room := { frames := 5, cells := 0, slots := 0, locals := 132 }
def p4_prepare : Nat → Nat := fun i => ([0, 1, 4, 7, 8, 9, 10, 11, 12, 15, 18, 21, 22, 25, 26, 29, 30, 31, 32, 35, 38, 41, 42, 43, 46] : List Nat).getD i 0
abbrev c2_fill : ByteArray := prog_9_method_2_code
abbrev y2_fill : MethodName := ⟨"ChoraleSearch$StateRules", "fill", "(LChoraleSearch$Layer;I)V"⟩
def w2_fill : List Cond := Cond.code y2_fill c2_fill 13 none :: ri_gT
abbrev r2_fill : Room := { frames := 4, cells := 0, slots := 0, locals := 100 }
def p2_fill : Nat → Nat := fun i => ([0, 1, 2, 5, 6, 7, 10, 11, 14, 15, 18, 19, 20, 23, 24, 25, 26, 29, 30, 31, 33, 35, 36, 39, 40, 41, 44, 45, 46, 49, 51, 54, 55, 57, 59, 62, 65, 66, 69, 70, 71, 73, 76, 78, 79, 82, 83, 84, 86, 89, 90, 91, 92, 95, 97, 99, 101, 104, 106, 107, 110, 112, 115, 116, 118, 120, 123, 126, 127, 129, 132, 134, 137, 139, 140, 143, 144, 145, 147, 150, 152, 153, 156, 157, 158, 160, 163, 164, 165, 166, 169, 171, 173, 175, 178, 180, 181, 184, 186, 189, 190, 192, 194, 197, 198, 199, 200, 202, 204, 207, 209, 211, 214, 217, 220, 223, 226, 229, 232] : List Nat).getD i 0
abbrev c2_setLimits : ByteArray := prog_9_method_3_code
abbrev y2_setLimits : MethodName := ⟨"ChoraleSearch$StateRules", "setLimits", "(I)V"⟩
def w2_setLimits : List Cond := Cond.code y2_setLimits c2_setLimits 3 none :: ri_gT
abbrev r2_setLimits : Room := { frames := 2, cells := 0, slots := 0, locals := 44 }
def p2_setLimits : Nat → Nat := fun i => ([0, 1, 2, 3, 4, 7, 8, 11, 12, 13, 16, 17, 18, 21, 22, 23, 26, 27, 28, 31, 32, 33, 36, 37, 40, 43] : List Nat).getD i 0
abbrev c0_lowAt : ByteArray := prog_8_method_4_code
abbrev y0_lowAt : MethodName := ⟨"ChoraleSearch$Score", "lowAt", "(II)I"⟩
def w0_lowAt : List Cond := Cond.code y0_lowAt c0_lowAt 4 (some .int) :: ri_gT
abbrev r0_lowAt : Room := { frames := 1, cells := 0, slots := 0, locals := 21 }
def p0_lowAt : Nat → Nat := fun i => ([0, 1, 4, 5, 6, 7, 8, 9, 10, 11, 12, 14, 17, 18, 21, 22, 23, 26, 27, 30, 31, 32, 33, 36] : List Nat).getD i 0
abbrev c0_highAt : ByteArray := prog_8_method_5_code
abbrev y0_highAt : MethodName := ⟨"ChoraleSearch$Score", "highAt", "(II)I"⟩
def w0_highAt : List Cond := Cond.code y0_highAt c0_highAt 4 (some .int) :: ri_gT
abbrev r0_highAt : Room := { frames := 1, cells := 0, slots := 0, locals := 21 }
def p0_highAt : Nat → Nat := fun i => ([0, 1, 4, 5, 6, 7, 8, 9, 10, 11, 12, 14, 17, 18, 21, 22, 23, 26, 27, 30, 31, 32, 33, 36] : List Nat).getD i 0
abbrev c0_figuredChords : ByteArray := prog_8_method_7_code
abbrev y0_figuredChords : MethodName := ⟨"ChoraleSearch$Score", "figuredChords", "(I)I"⟩
def w0_figuredChords : List Cond := Cond.code y0_figuredChords c0_figuredChords 3 (some .int) :: ri_gT
abbrev r0_figuredChords : Room := { frames := 0, cells := 0, slots := 0, locals := 0 }
def p0_figuredChords : Nat → Nat := fun i => ([0, 1, 4, 5, 6, 7, 8, 10, 13, 14, 17, 20, 21, 24, 25, 26, 27, 28] : List Nat).getD i 0
abbrev c2_chordsByRule6 : ByteArray := prog_9_method_6_code
abbrev y2_chordsByRule6 : MethodName := ⟨"ChoraleSearch$StateRules", "chordsByRule6", "(I)I"⟩
def w2_chordsByRule6 : List Cond := Cond.code y2_chordsByRule6 c2_chordsByRule6 2 (some .int) :: ri_gT
abbrev r2_chordsByRule6 : Room := { frames := 1, cells := 0, slots := 0, locals := 21 }
def p2_chordsByRule6 : Nat → Nat := fun i => ([0, 1, 4, 5, 8, 11, 12, 13, 14, 17, 20, 21, 22, 25, 27, 30, 31] : List Nat).getD i 0
abbrev c0_isLast : ByteArray := prog_8_method_6_code
abbrev y0_isLast : MethodName := ⟨"ChoraleSearch$Score", "isLast", "(I)Z"⟩
def w0_isLast : List Cond := Cond.code y0_isLast c0_isLast 2 (some .boolean) :: ri_gT
abbrev r0_isLast : Room := { frames := 0, cells := 0, slots := 0, locals := 0 }
def p0_isLast : Nat → Nat := fun i => ([0, 1, 2, 5, 6, 7, 10, 11, 14, 15] : List Nat).getD i 0
abbrev c1_chordsWith : ByteArray := prog_4_method_11_code
abbrev y1_chordsWith : MethodName := ⟨"ChoraleSearch$Harmony", "chordsWith", "(I)I"⟩
def w1_chordsWith : List Cond := Cond.code y1_chordsWith c1_chordsWith 2 (some .int) :: ri_gT
abbrev r1_chordsWith : Room := { frames := 0, cells := 0, slots := 0, locals := 0 }
def p1_chordsWith : Nat → Nat := fun i => ([0, 1, 4, 5, 7, 8, 9] : List Nat).getD i 0
abbrev c11_withVoice : ByteArray := prog_2_method_2_code
abbrev y11_withVoice : MethodName := ⟨"ChoraleSearch$Code", "withVoice", "(II)I"⟩
def w11_withVoice : List Cond := Cond.code y11_withVoice c11_withVoice 2 (some .int) :: ri_gT
abbrev r11_withVoice : Room := { frames := 0, cells := 0, slots := 0, locals := 0 }
def p11_withVoice : Nat → Nat := fun i => ([0, 1, 3, 4, 5, 7, 8, 9] : List Nat).getD i 0
abbrev c2_fillBass : ByteArray := prog_9_method_4_code
abbrev y2_fillBass : MethodName := ⟨"ChoraleSearch$StateRules", "fillBass", "(LChoraleSearch$Layer;IIII)V"⟩
def w2_fillBass : List Cond := Cond.code y2_fillBass c2_fillBass 9 none :: ri_gT
abbrev r2_fillBass : Room := { frames := 3, cells := 0, slots := 0, locals := 72 }
def p2_fillBass : Nat → Nat := fun i => ([0, 1, 4, 5, 6, 8, 11, 13, 14, 17, 18, 19, 21, 24, 25, 26, 27, 30, 32, 34, 36, 39, 41, 42, 43, 45, 48, 49, 51, 53, 56, 57, 58, 59, 61, 64, 66, 69, 72, 75] : List Nat).getD i 0
abbrev c2_bassChords : ByteArray := prog_9_method_7_code
abbrev y2_bassChords : MethodName := ⟨"ChoraleSearch$StateRules", "bassChords", "(II)I"⟩
def w2_bassChords : List Cond := Cond.code y2_bassChords c2_bassChords 5 (some .int) :: ri_gT
abbrev r2_bassChords : Room := { frames := 1, cells := 0, slots := 0, locals := 22 }
def p2_bassChords : Nat → Nat := fun i => ([0, 1, 4, 7, 8, 9, 10, 11, 13, 16, 17, 20, 21, 24, 27, 28, 31, 32, 33, 36, 38, 39, 42, 43, 46, 49, 51, 52, 55, 56, 57, 60, 61, 64, 66] : List Nat).getD i 0
abbrev c1_chordsWithMember : ByteArray := prog_4_method_10_code
abbrev y1_chordsWithMember : MethodName := ⟨"ChoraleSearch$Harmony", "chordsWithMember", "(II)I"⟩
def w1_chordsWithMember : List Cond := Cond.code y1_chordsWithMember c1_chordsWithMember 3 (some .int) :: ri_gT
abbrev r1_chordsWithMember : Room := { frames := 0, cells := 0, slots := 0, locals := 0 }
def p1_chordsWithMember : Nat → Nat := fun i => ([0, 1, 4, 5, 7, 8, 9, 11, 12, 13, 14] : List Nat).getD i 0
abbrev c2_addComplete : ByteArray := prog_9_method_5_code
abbrev y2_addComplete : MethodName := ⟨"ChoraleSearch$StateRules", "addComplete", "(LChoraleSearch$Layer;II)V"⟩
def w2_addComplete : List Cond := Cond.code y2_addComplete c2_addComplete 6 none :: ri_gT
abbrev r2_addComplete : Room := { frames := 2, cells := 0, slots := 0, locals := 47 }
def p2_addComplete : Nat → Nat := fun i => ([0, 1, 3, 5, 7, 10, 11, 13, 14, 15, 16, 17, 20, 21, 23, 26, 28, 29, 31, 33, 36, 39, 40, 42, 45, 48, 51] : List Nat).getD i 0
abbrev c11_withChord : ByteArray := prog_2_method_3_code
abbrev y11_withChord : MethodName := ⟨"ChoraleSearch$Code", "withChord", "(II)I"⟩
def w11_withChord : List Cond := Cond.code y11_withChord c11_withChord 2 (some .int) :: ri_gT
abbrev r11_withChord : Room := { frames := 0, cells := 0, slots := 0, locals := 0 }
def p11_withChord : Nat → Nat := fun i => ([0, 1, 2, 3, 4, 5] : List Nat).getD i 0
abbrev c2_keepsRules4And5 : ByteArray := prog_9_method_8_code
abbrev y2_keepsRules4And5 : MethodName := ⟨"ChoraleSearch$StateRules", "keepsRules4And5", "(II)Z"⟩
def w2_keepsRules4And5 : List Cond := Cond.code y2_keepsRules4And5 c2_keepsRules4And5 4 (some .boolean) :: ri_gT
abbrev r2_keepsRules4And5 : Room := { frames := 1, cells := 0, slots := 0, locals := 24 }
def p2_keepsRules4And5 : Nat → Nat := fun i => ([0, 1, 2, 5, 6, 7, 10, 13, 16, 17, 18, 21, 22, 23, 26, 29, 32, 33, 34, 35, 38, 39, 40, 43, 44, 45, 47, 50, 51, 52, 55, 56, 59, 60, 61, 62, 65, 66, 69, 72, 73, 74, 77, 80, 83, 84, 87, 88, 91, 92] : List Nat).getD i 0
abbrev c1_memberClass : ByteArray := prog_4_method_9_code
abbrev y1_memberClass : MethodName := ⟨"ChoraleSearch$Harmony", "memberClass", "(II)I"⟩
def w1_memberClass : List Cond := Cond.code y1_memberClass c1_memberClass 3 (some .int) :: ri_gT
abbrev r1_memberClass : Room := { frames := 0, cells := 0, slots := 0, locals := 0 }
def p1_memberClass : Nat → Nat := fun i => ([0, 1, 4, 5, 6, 7, 8, 9, 10] : List Nat).getD i 0
abbrev c11_timesClass : ByteArray := prog_2_method_7_code
abbrev y11_timesClass : MethodName := ⟨"ChoraleSearch$Code", "timesClass", "(II)I"⟩
def w11_timesClass : List Cond := Cond.code y11_timesClass c11_timesClass 5 (some .int) :: ri_gT
abbrev r11_timesClass : Room := { frames := 0, cells := 0, slots := 0, locals := 0 }
def p11_timesClass : Nat → Nat := fun i => ([0, 1, 2, 3, 4, 5, 6, 7, 9, 11, 14, 16, 17, 19, 20, 21, 23, 24, 25, 28, 31, 32, 34, 35, 36, 39, 42, 43] : List Nat).getD i 0
abbrev c1_guardsLeading : ByteArray := prog_4_method_12_code
abbrev y1_guardsLeading : MethodName := ⟨"ChoraleSearch$Harmony", "guardsLeading", "(I)Z"⟩
def w1_guardsLeading : List Cond := Cond.code y1_guardsLeading c1_guardsLeading 2 (some .boolean) :: ri_gT
abbrev r1_guardsLeading : Room := { frames := 0, cells := 0, slots := 0, locals := 0 }
def p1_guardsLeading : Nat → Nat := fun i => ([0, 1, 2, 5, 6, 8, 11, 12, 14, 17, 18, 19, 22, 23, 26, 29, 30, 33, 34] : List Nat).getD i 0
abbrev c5_add : ByteArray := prog_5_method_2_code
abbrev y5_add : MethodName := ⟨"ChoraleSearch$Layer", "add", "(I)V"⟩
def w5_add : List Cond := Cond.code y5_add c5_add 2 none :: ri_gT
abbrev r5_add : Room := { frames := 0, cells := 0, slots := 0, locals := 0 }
def p5_add : Nat → Nat := fun i => ([0, 1, 4, 7, 10, 11, 14, 15, 18, 19, 20, 21, 22, 25, 26, 27, 30] : List Nat).getD i 0
abbrev c4_overflows : ByteArray := prog_11_method_4_code
abbrev y4_overflows : MethodName := ⟨"ChoraleSearch$Table", "overflows", "()Z"⟩
def w4_overflows : List Cond := Cond.code y4_overflows c4_overflows 2 (some .boolean) :: ri_gT
abbrev r4_overflows : Room := { frames := 0, cells := 0, slots := 0, locals := 0 }
def p4_overflows : Nat → Nat := fun i => ([0, 1, 2, 3, 4, 7, 10, 13, 14, 17, 18, 19, 22, 25, 28, 29, 30, 33, 36, 37] : List Nat).getD i 0
abbrev c8_run : ByteArray := prog_7_method_4_code
abbrev y8_run : MethodName := ⟨"ChoraleSearch$RowSearch", "run", "(I)V"⟩
def w8_run : List Cond := Cond.code y8_run c8_run 4 none :: ri_gT
abbrev r8_run : Room := { frames := 5, cells := 0, slots := 0, locals := 122 }
def p8_run : Nat → Nat := fun i => ([0, 1, 4, 5, 8, 11, 12, 13, 14, 15, 18, 19, 22, 23, 24, 25, 28, 31, 32, 33, 36, 37, 38, 41, 42, 45, 46, 47, 48, 51, 52, 53, 56, 59, 62, 63, 66, 67, 70] : List Nat).getD i 0
abbrev c8_findRests : ByteArray := prog_7_method_5_code
abbrev y8_findRests : MethodName := ⟨"ChoraleSearch$RowSearch", "findRests", "(I)V"⟩
def w8_findRests : List Cond := Cond.code y8_findRests c8_findRests 6 none :: ri_gT
abbrev r8_findRests : Room := { frames := 4, cells := 0, slots := 0, locals := 97 }
def p8_findRests : Nat → Nat := fun i => ([0, 1, 4, 7, 8, 9, 10, 11, 14, 15, 16, 17, 18, 19, 22, 23, 25, 27, 28, 31, 34, 35, 38, 39, 42, 44, 45, 48, 50, 51, 54, 55, 58, 61, 62, 65, 66, 68, 69, 70, 72, 73, 76, 77, 80, 81, 82, 84, 86, 89, 92, 95] : List Nat).getD i 0
abbrev c5_kept : ByteArray := prog_5_method_3_code
abbrev y5_kept : MethodName := ⟨"ChoraleSearch$Layer", "kept", "()I"⟩
def w5_kept : List Cond := Cond.code y5_kept c5_kept 1 (some .int) :: ri_gT
abbrev r5_kept : Room := { frames := 1, cells := 0, slots := 0, locals := 21 }
def p5_kept : Nat → Nat := fun i => ([0, 1, 4, 7, 10] : List Nat).getD i 0
abbrev c7_ofState : ByteArray := prog_3_method_2_code
abbrev y7_ofState : MethodName := ⟨"ChoraleSearch$Costs", "ofState", "(I)I"⟩
def w7_ofState : List Cond := Cond.code y7_ofState c7_ofState 4 (some .int) :: ri_gT
abbrev r7_ofState : Room := { frames := 2, cells := 0, slots := 0, locals := 47 }
def p7_ofState : Nat → Nat := fun i => ([0, 1, 4, 7, 8, 9, 10, 11, 14, 15, 16, 17, 18, 21, 24, 26, 27, 28, 31, 32, 33, 34, 35, 38, 39, 40, 43, 46, 47, 48, 51, 54, 55, 56, 57, 58, 59, 62, 63, 64, 67, 68, 69, 72, 73, 74, 77, 78, 81, 82, 83, 86, 87, 90, 91, 92, 95, 98, 100, 101, 102, 103, 104] : List Nat).getD i 0
abbrev c7_inversionUnits : ByteArray := prog_3_method_3_code
abbrev y7_inversionUnits : MethodName := ⟨"ChoraleSearch$Costs", "inversionUnits", "(I)I"⟩
def w7_inversionUnits : List Cond := Cond.code y7_inversionUnits c7_inversionUnits 4 (some .int) :: ri_gT
abbrev r7_inversionUnits : Room := { frames := 1, cells := 0, slots := 0, locals := 22 }
def p7_inversionUnits : Nat → Nat := fun i => ([0, 1, 2, 5, 7, 8, 9, 10, 11, 12, 13, 16, 17, 20, 21, 24, 25, 28, 29, 32, 35, 36, 37, 38, 41, 44, 45] : List Nat).getD i 0
abbrev c11_pitchOf : ByteArray := prog_2_method_5_code
abbrev y11_pitchOf : MethodName := ⟨"ChoraleSearch$Code", "pitchOf", "(II)I"⟩
def w11_pitchOf : List Cond := Cond.code y11_pitchOf c11_pitchOf 2 (some .int) :: ri_gT
abbrev r11_pitchOf : Room := { frames := 0, cells := 0, slots := 0, locals := 0 }
def p11_pitchOf : Nat → Nat := fun i => ([0, 2, 3, 4, 6, 7, 8, 9, 10, 11, 12, 14, 15, 16] : List Nat).getD i 0
abbrev c11_chordOf : ByteArray := prog_2_method_4_code
abbrev y11_chordOf : MethodName := ⟨"ChoraleSearch$Code", "chordOf", "(I)I"⟩
def w11_chordOf : List Cond := Cond.code y11_chordOf c11_chordOf 1 (some .int) :: ri_gT
abbrev r11_chordOf : Room := { frames := 0, cells := 0, slots := 0, locals := 0 }
def p11_chordOf : Nat → Nat := fun i => ([0, 1, 3, 4] : List Nat).getD i 0
abbrev c7_unisons : ByteArray := prog_3_method_4_code
abbrev y7_unisons : MethodName := ⟨"ChoraleSearch$Costs", "unisons", "(I)I"⟩
def w7_unisons : List Cond := Cond.code y7_unisons c7_unisons 3 (some .int) :: ri_gT
abbrev r7_unisons : Room := { frames := 1, cells := 0, slots := 0, locals := 21 }
def p7_unisons : Nat → Nat := fun i => ([0, 1, 2, 3, 4, 5, 6, 9, 10, 11, 14, 15, 16, 17, 18, 21, 24, 27, 30, 33, 34] : List Nat).getD i 0
abbrev c1_timesMember : ByteArray := prog_4_method_14_code
abbrev y1_timesMember : MethodName := ⟨"ChoraleSearch$Harmony", "timesMember", "(II)I"⟩
def w1_timesMember : List Cond := Cond.code y1_timesMember c1_timesMember 4 (some .int) :: ri_gT
abbrev r1_timesMember : Room := { frames := 1, cells := 0, slots := 0, locals := 24 }
def p1_timesMember : Nat → Nat := fun i => ([0, 1, 2, 5, 6, 9, 10, 11, 13, 16, 17, 20, 21, 22, 25] : List Nat).getD i 0
abbrev c8_insert : ByteArray := prog_7_method_8_code
abbrev y8_insert : MethodName := ⟨"ChoraleSearch$RowSearch", "insert", "([I[IIII)Z"⟩
def w8_insert : List Cond := Cond.code y8_insert c8_insert 6 (some .boolean) :: ri_gT
abbrev r8_insert : Room := { frames := 0, cells := 0, slots := 0, locals := 0 }
def p8_insert : Nat → Nat := fun i => ([0, 1, 2, 3, 4, 5, 7, 8, 10, 11, 12, 15, 16, 18, 19, 20, 23, 24, 25, 27, 28, 31, 32, 34, 35, 36, 37, 38, 41, 42, 44, 45, 46, 47, 48, 51, 52, 54, 55, 57, 58, 59, 60, 61, 62, 64, 65, 67, 68, 69, 70, 71, 74, 77, 78, 80, 81, 82, 83, 85, 87, 88, 89] : List Nat).getD i 0
abbrev c8_linkOnward : ByteArray := prog_7_method_6_code
abbrev y8_linkOnward : MethodName := ⟨"ChoraleSearch$RowSearch", "linkOnward", "(III)V"⟩
def w8_linkOnward : List Cond := Cond.code y8_linkOnward c8_linkOnward 9 none :: ri_gT
abbrev r8_linkOnward : Room := { frames := 3, cells := 0, slots := 0, locals := 69 }
def p8_linkOnward : Nat → Nat := fun i => ([0, 1, 4, 7, 8, 9, 12, 13, 14, 16, 17, 20, 23, 24, 25, 26, 27, 29, 30, 32, 34, 35, 38, 41, 42, 45, 47, 48, 50, 51, 54, 56, 58, 61, 63, 64, 67, 70, 71, 72, 75, 77, 79, 82, 84, 85, 88, 89, 91, 92, 93, 94, 96, 98, 101, 104, 107] : List Nat).getD i 0
abbrev c3_allow : ByteArray := prog_10_method_2_code
abbrev y3_allow : MethodName := ⟨"ChoraleSearch$StepRules", "allow", "(II)Z"⟩
def w3_allow : List Cond := Cond.code y3_allow c3_allow 3 (some .boolean) :: ri_gT
abbrev r3_allow : Room := { frames := 2, cells := 0, slots := 0, locals := 45 }
def p3_allow : Nat → Nat := fun i => ([0, 1, 2, 3, 6, 7, 10, 13, 14, 17, 20, 21, 24, 27, 28, 31, 34, 35, 38, 41, 42, 45, 48, 49, 52, 53] : List Nat).getD i 0
abbrev c3_lookAt : ByteArray := prog_10_method_4_code
abbrev y3_lookAt : MethodName := ⟨"ChoraleSearch$StepRules", "lookAt", "(II)V"⟩
def w3_lookAt : List Cond := Cond.code y3_lookAt c3_lookAt 3 none :: ri_gT
abbrev r3_lookAt : Room := { frames := 1, cells := 0, slots := 0, locals := 23 }
def p3_lookAt : Nat → Nat := fun i => ([0, 1, 2, 5, 8, 9, 10, 13, 16, 17, 18, 21, 24, 25, 26, 29, 32] : List Nat).getD i 0
abbrev c11_unpack : ByteArray := prog_2_method_6_code
abbrev y11_unpack : MethodName := ⟨"ChoraleSearch$Code", "unpack", "(I[I)V"⟩
def w11_unpack : List Cond := Cond.code y11_unpack c11_unpack 4 none :: ri_gT
abbrev r11_unpack : Room := { frames := 0, cells := 0, slots := 0, locals := 0 }
def p11_unpack : Nat → Nat := fun i => ([0, 1, 2, 3, 4, 5, 6, 7, 10, 11, 12, 14, 15, 17, 18, 19, 20, 21, 23, 24, 25, 28, 31] : List Nat).getD i 0
abbrev c3_breaks7 : ByteArray := prog_10_method_5_code
abbrev y3_breaks7 : MethodName := ⟨"ChoraleSearch$StepRules", "breaks7", "()Z"⟩
def w3_breaks7 : List Cond := Cond.code y3_breaks7 c3_breaks7 1 (some .boolean) :: ri_gT
abbrev r3_breaks7 : Room := { frames := 1, cells := 0, slots := 0, locals := 22 }
def p3_breaks7 : Nat → Nat := fun i => ([0, 1, 4, 5, 8, 9, 12, 15, 16, 19, 20, 23, 24] : List Nat).getD i 0
abbrev c1_unitsBetween : ByteArray := prog_4_method_8_code
abbrev y1_unitsBetween : MethodName := ⟨"ChoraleSearch$Harmony", "unitsBetween", "(II)I"⟩
def w1_unitsBetween : List Cond := Cond.code y1_unitsBetween c1_unitsBetween 3 (some .int) :: ri_gT
abbrev r1_unitsBetween : Room := { frames := 0, cells := 0, slots := 0, locals := 0 }
def p1_unitsBetween : Nat → Nat := fun i => ([0, 1, 4, 5, 7, 8, 9, 10, 11] : List Nat).getD i 0
abbrev c3_breaks10 : ByteArray := prog_10_method_8_code
abbrev y3_breaks10 : MethodName := ⟨"ChoraleSearch$StepRules", "breaks10", "()Z"⟩
def w3_breaks10 : List Cond := Cond.code y3_breaks10 c3_breaks10 2 (some .boolean) :: ri_gT
abbrev r3_breaks10 : Room := { frames := 0, cells := 0, slots := 0, locals := 0 }
def p3_breaks10 : Nat → Nat := fun i => ([0, 1, 2, 3, 4, 7, 8, 11, 12, 13, 14, 15, 16, 19, 20, 21, 24, 25, 28, 29, 30, 31, 34, 35, 36, 37, 38, 41, 42, 43, 46, 49, 50] : List Nat).getD i 0
abbrev c3_breaks9 : ByteArray := prog_10_method_7_code
abbrev y3_breaks9 : MethodName := ⟨"ChoraleSearch$StepRules", "breaks9", "()Z"⟩
def w3_breaks9 : List Cond := Cond.code y3_breaks9 c3_breaks9 3 (some .boolean) :: ri_gT
abbrev r3_breaks9 : Room := { frames := 1, cells := 0, slots := 0, locals := 21 }
def p3_breaks9 : Nat → Nat := fun i => ([0, 1, 2, 3, 4, 7, 8, 11, 12, 13, 14, 17, 18, 19, 20, 23, 24, 25, 27, 30, 33, 34, 35, 36, 37, 40, 41, 42, 45, 48, 49] : List Nat).getD i 0
abbrev c3_breaks8 : ByteArray := prog_10_method_6_code
abbrev y3_breaks8 : MethodName := ⟨"ChoraleSearch$StepRules", "breaks8", "()Z"⟩
def w3_breaks8 : List Cond := Cond.code y3_breaks8 c3_breaks8 4 (some .boolean) :: ri_gT
abbrev r3_breaks8 : Room := { frames := 0, cells := 0, slots := 0, locals := 0 }
def p3_breaks8 : Nat → Nat := fun i => ([0, 1, 2, 3, 4, 7, 8, 9, 10, 11, 12, 13, 16, 17, 20, 21, 22, 23, 26, 27, 28, 29, 31, 32, 33, 34, 37, 38, 40, 43, 44, 45, 48, 49, 50, 51, 54, 55, 56, 57, 59, 60, 63, 64, 67, 68, 69, 70, 73, 74, 75, 78, 79, 82, 83, 84, 85, 88, 89, 90, 93, 94, 95, 98, 101, 104, 107, 108] : List Nat).getD i 0
abbrev c3_breaks11 : ByteArray := prog_10_method_9_code
abbrev y3_breaks11 : MethodName := ⟨"ChoraleSearch$StepRules", "breaks11", "()Z"⟩
def w3_breaks11 : List Cond := Cond.code y3_breaks11 c3_breaks11 1 (some .boolean) :: ri_gT
abbrev r3_breaks11 : Room := { frames := 1, cells := 0, slots := 0, locals := 21 }
def p3_breaks11 : Nat → Nat := fun i => ([0, 1, 4, 5, 8, 9, 12, 14, 17, 18, 21, 23, 26, 27, 30, 33, 34, 37, 38, 41, 42, 43, 44, 45, 48, 51, 52, 53, 56, 59, 60, 63, 64] : List Nat).getD i 0
abbrev c3_leadsAstray : ByteArray := prog_10_method_10_code
abbrev y3_leadsAstray : MethodName := ⟨"ChoraleSearch$StepRules", "leadsAstray", "(I)Z"⟩
def w3_leadsAstray : List Cond := Cond.code y3_leadsAstray c3_leadsAstray 2 (some .boolean) :: ri_gT
abbrev r3_leadsAstray : Room := { frames := 0, cells := 0, slots := 0, locals := 0 }
def p3_leadsAstray : Nat → Nat := fun i => ([0, 1, 4, 5, 6, 8, 9, 10, 13, 16, 19, 20, 23, 24, 25, 26, 29, 30, 31, 32, 33, 36, 37, 40, 41] : List Nat).getD i 0
abbrev c3_breaks12 : ByteArray := prog_10_method_11_code
abbrev y3_breaks12 : MethodName := ⟨"ChoraleSearch$StepRules", "breaks12", "()Z"⟩
def w3_breaks12 : List Cond := Cond.code y3_breaks12 c3_breaks12 4 (some .boolean) :: ri_gT
abbrev r3_breaks12 : Room := { frames := 1, cells := 0, slots := 0, locals := 22 }
def p3_breaks12 : Nat → Nat := fun i => ([0, 1, 4, 5, 8, 9, 12, 13, 14, 16, 19, 20, 23, 24, 27, 30, 31, 32, 33, 34, 35, 36, 39, 40, 43, 44, 45, 46, 49, 50, 51, 52, 53, 54, 57, 58, 59, 61, 62, 63, 66, 67, 70, 71, 72, 75, 76, 77, 80, 83, 84] : List Nat).getD i 0
abbrev c7_ofStep : ByteArray := prog_3_method_5_code
abbrev y7_ofStep : MethodName := ⟨"ChoraleSearch$Costs", "ofStep", "(II)I"⟩
def w7_ofStep : List Cond := Cond.code y7_ofStep c7_ofStep 7 (some .int) :: ri_gT
abbrev r7_ofStep : Room := { frames := 2, cells := 0, slots := 0, locals := 43 }
def p7_ofStep : Nat → Nat := fun i => ([0, 1, 4, 5, 8, 9, 12, 15, 16, 17, 20, 23, 24, 25, 26, 27, 29, 30, 32, 34, 35, 38, 40, 41, 44, 47, 48, 49, 50, 51, 52, 54, 57, 60, 61, 62, 65, 66, 67, 69, 72, 75, 76, 77, 78, 81, 83, 85, 88, 90, 93, 95, 96, 99, 102, 103, 104, 105, 107, 108, 109, 112, 113, 114, 117, 118, 120, 121, 122, 123, 126, 128, 130, 132, 133, 136, 139, 141, 142, 145, 148, 149, 150, 151, 153, 154, 155, 156, 157, 158, 159, 162, 164, 165, 168, 171, 173, 174, 175, 177, 179] : List Nat).getD i 0
abbrev c7_move : ByteArray := prog_3_method_6_code
abbrev y7_move : MethodName := ⟨"ChoraleSearch$Costs", "move", "(III)I"⟩
def w7_move : List Cond := Cond.code y7_move c7_move 3 (some .int) :: ri_gT
abbrev r7_move : Room := { frames := 1, cells := 0, slots := 0, locals := 21 }
def p7_move : Nat → Nat := fun i => ([0, 1, 2, 5, 6, 7, 10, 11] : List Nat).getD i 0
abbrev c7_isHidden : ByteArray := prog_3_method_7_code
abbrev y7_isHidden : MethodName := ⟨"ChoraleSearch$Costs", "isHidden", "(III)Z"⟩
def w7_isHidden : List Cond := Cond.code y7_isHidden c7_isHidden 4 (some .boolean) :: ri_gT
abbrev r7_isHidden : Room := { frames := 0, cells := 0, slots := 0, locals := 0 }
def p7_isHidden : Nat → Nat := fun i => ([0, 1, 2, 5, 6, 9, 10, 12, 15, 16, 19, 20, 23, 24, 25, 26, 29, 30, 33, 34, 36, 39, 40, 43, 44] : List Nat).getD i 0
abbrev c8_insertRests : ByteArray := prog_7_method_7_code
abbrev y8_insertRests : MethodName := ⟨"ChoraleSearch$RowSearch", "insertRests", "(IIII)V"⟩
def w8_insertRests : List Cond := Cond.code y8_insertRests c8_insertRests 7 none :: ri_gT
abbrev r8_insertRests : Room := { frames := 1, cells := 0, slots := 0, locals := 25 }
def p8_insertRests : Nat → Nat := fun i => ([0, 1, 3, 5, 6, 9, 10, 11, 12, 14, 15, 17, 18, 21, 22, 23, 24, 25, 27, 28, 29, 32, 33, 36, 37, 40, 41, 42, 43, 44, 45, 47, 48, 51, 53, 54, 55, 57, 60, 63, 64, 67, 70] : List Nat).getD i 0
abbrev c8_narrow : ByteArray := prog_7_method_9_code
abbrev y8_narrow : MethodName := ⟨"ChoraleSearch$RowSearch", "narrow", "(II)V"⟩
def w8_narrow : List Cond := Cond.code y8_narrow c8_narrow 6 none :: ri_gT
abbrev r8_narrow : Room := { frames := 2, cells := 0, slots := 0, locals := 47 }
def p8_narrow : Nat → Nat := fun i => ([0, 1, 4, 5, 6, 7, 8, 10, 11, 13, 15, 16, 19, 22, 23, 24, 27, 30, 31, 33, 34, 35, 36, 37, 40, 42, 43, 46, 49, 50, 52, 54, 55, 56, 59, 62, 63, 64, 67, 68, 69, 71, 72, 75, 78, 81] : List Nat).getD i 0
abbrev c8_sortIn : ByteArray := prog_7_method_11_code
abbrev y8_sortIn : MethodName := ⟨"ChoraleSearch$RowSearch", "sortIn", "(II)V"⟩
def w8_sortIn : List Cond := Cond.code y8_sortIn c8_sortIn 4 none :: ri_gT
abbrev r8_sortIn : Room := { frames := 0, cells := 0, slots := 0, locals := 0 }
def p8_sortIn : Nat → Nat := fun i => ([0, 1, 2, 3, 6, 7, 10, 11, 14, 15, 16, 17, 18, 19, 20, 21, 22, 25, 26, 27, 28, 29, 32, 33, 36, 37, 38, 41, 42, 43, 44, 45, 46, 49, 52, 53, 56, 57, 58, 59] : List Nat).getD i 0
abbrev c8_dropWorst : ByteArray := prog_7_method_10_code
abbrev y8_dropWorst : MethodName := ⟨"ChoraleSearch$RowSearch", "dropWorst", "([III)V"⟩
def w8_dropWorst : List Cond := Cond.code y8_dropWorst c8_dropWorst 5 none :: ri_gT
abbrev r8_dropWorst : Room := { frames := 1, cells := 0, slots := 0, locals := 23 }
def p8_dropWorst : Nat → Nat := fun i => ([0, 1, 4, 5, 6, 7, 8, 10, 11, 14, 15, 16, 17, 18, 19, 22, 24, 25, 26, 27, 30, 31, 33, 34, 35, 36, 37, 38, 39, 40, 41, 42, 45, 48, 49, 50, 51, 52, 53, 54] : List Nat).getD i 0
abbrev c8_listAlive : ByteArray := prog_7_method_12_code
abbrev y8_listAlive : MethodName := ⟨"ChoraleSearch$RowSearch", "listAlive", "(I)V"⟩
def w8_listAlive : List Cond := Cond.code y8_listAlive c8_listAlive 3 none :: ri_gT
abbrev r8_listAlive : Room := { frames := 2, cells := 0, slots := 0, locals := 41 }
def p8_listAlive : Nat → Nat := fun i => ([0, 1, 2, 5, 6, 7, 8, 9, 12, 15, 16, 17, 20, 23, 24, 27, 28, 29, 30, 31, 32, 33, 34, 37, 38, 41, 42, 45, 46, 47, 48, 49, 52, 53, 54, 57, 60, 63] : List Nat).getD i 0
abbrev c8_gatherRows : ByteArray := prog_7_method_13_code
abbrev y8_gatherRows : MethodName := ⟨"ChoraleSearch$RowSearch", "gatherRows", "()V"⟩
def w8_gatherRows : List Cond := Cond.code y8_gatherRows c8_gatherRows 4 none :: ri_gT
abbrev r8_gatherRows : Room := { frames := 1, cells := 0, slots := 0, locals := 25 }
def p8_gatherRows : Nat → Nat := fun i => ([0, 1, 4, 5, 8, 9, 10, 11, 12, 15, 18, 19, 20, 21, 22, 25, 26, 29, 30, 31, 32, 33, 34, 35, 36, 37, 40, 41, 42, 43, 44, 45, 48, 49, 52, 53, 56, 57, 58, 61, 62, 63, 64, 67, 68, 71, 74, 77, 80] : List Nat).getD i 0
abbrev c8_traceRows : ByteArray := prog_7_method_14_code
abbrev y8_traceRows : MethodName := ⟨"ChoraleSearch$RowSearch", "traceRows", "()V"⟩
def w8_traceRows : List Cond := Cond.code y8_traceRows c8_traceRows 4 none :: ri_gT
abbrev r8_traceRows : Room := { frames := 0, cells := 0, slots := 0, locals := 0 }
def p8_traceRows : Nat → Nat := fun i => ([0, 1, 2, 3, 4, 7, 8, 11, 12, 13, 14, 17, 18, 21, 22, 23, 24, 25, 26, 27, 28, 31, 34, 37, 38, 41, 42, 44, 45, 46, 47, 48, 51, 54, 55, 56, 59, 60, 61, 62, 63, 64, 65, 68, 69, 70, 71, 72, 73, 76, 79, 80, 81, 84, 85, 86, 89, 92, 95] : List Nat).getD i 0
abbrev c9_note : ByteArray := prog_1_method_13_code
abbrev y9_note : MethodName := ⟨"ChoraleSearch", "note", "(III)I"⟩
def w9_note : List Cond := Cond.code y9_note c9_note 4 (some .int) :: ri_gT
abbrev r9_note : Room := { frames := 1, cells := 0, slots := 0, locals := 22 }
def p9_note : Nat → Nat := fun i => ([0, 1, 2, 5, 8, 9, 12, 15, 16, 17, 20, 23, 24, 25, 26, 29, 30, 31, 34, 35, 38] : List Nat).getD i 0
abbrev c9_isRow : ByteArray := prog_1_method_27_code
abbrev y9_isRow : MethodName := ⟨"ChoraleSearch", "isRow", "(I)Z"⟩
def w9_isRow : List Cond := Cond.code y9_isRow c9_isRow 2 (some .boolean) :: ri_gT
abbrev r9_isRow : Room := { frames := 0, cells := 0, slots := 0, locals := 0 }
def p9_isRow : Nat → Nat := fun i => ([0, 1, 4, 5, 6, 9, 12, 15, 16, 19, 20] : List Nat).getD i 0
abbrev c8_codeAt : ByteArray := prog_7_method_3_code
abbrev y8_codeAt : MethodName := ⟨"ChoraleSearch$RowSearch", "codeAt", "(II)I"⟩
def w8_codeAt : List Cond := Cond.code y8_codeAt c8_codeAt 3 (some .int) :: ri_gT
abbrev r8_codeAt : Room := { frames := 0, cells := 0, slots := 0, locals := 0 }
def p8_codeAt : Nat → Nat := fun i => ([0, 1, 4, 5, 7, 8, 9, 10, 11] : List Nat).getD i 0
abbrev c9_chord : ByteArray := prog_1_method_14_code
abbrev y9_chord : MethodName := ⟨"ChoraleSearch", "chord", "(II)I"⟩
def w9_chord : List Cond := Cond.code y9_chord c9_chord 3 (some .int) :: ri_gT
abbrev r9_chord : Room := { frames := 1, cells := 0, slots := 0, locals := 22 }
def p9_chord : Nat → Nat := fun i => ([0, 1, 2, 5, 8, 9, 10, 13, 16, 17, 18, 19, 22, 23, 24, 27, 30] : List Nat).getD i 0
abbrev c9_sum : ByteArray := prog_1_method_15_code
abbrev y9_sum : MethodName := ⟨"ChoraleSearch", "sum", "(I)I"⟩
def w9_sum : List Cond := Cond.code y9_sum c9_sum 2 (some .int) :: ri_gT
abbrev r9_sum : Room := { frames := 1, cells := 0, slots := 0, locals := 21 }
def p9_sum : Nat → Nat := fun i => ([0, 1, 2, 5, 8, 9, 12, 15, 16, 17, 20, 21] : List Nat).getD i 0
abbrev c9_least : ByteArray := prog_1_method_16_code
abbrev y9_least : MethodName := ⟨"ChoraleSearch", "least", "()I"⟩
def w9_least : List Cond := Cond.code y9_least c9_least 1 (some .int) :: ri_gT
abbrev r9_least : Room := { frames := 0, cells := 0, slots := 0, locals := 0 }
def p9_least : Nat → Nat := fun i => ([0, 1, 4, 7, 10, 11, 12, 13, 16, 19, 22, 23, 26, 27] : List Nat).getD i 0
abbrev c9_states : ByteArray := prog_1_method_17_code
abbrev y9_states : MethodName := ⟨"ChoraleSearch", "states", "(I)I"⟩
def w9_states : List Cond := Cond.code y9_states c9_states 2 (some .int) :: ri_gT
abbrev r9_states : Room := { frames := 6, cells := 0, slots := 0, locals := 153 }
def p9_states : Nat → Nat := fun i => ([0, 1, 2, 5, 8, 9, 10, 11, 14, 17, 18, 21, 24, 25, 26, 29] : List Nat).getD i 0
abbrev c9_blocked : ByteArray := prog_1_method_18_code
abbrev y9_blocked : MethodName := ⟨"ChoraleSearch", "blocked", "(I)I"⟩
def w9_blocked : List Cond := Cond.code y9_blocked c9_blocked 3 (some .int) :: ri_gT
abbrev r9_blocked : Room := { frames := 6, cells := 0, slots := 0, locals := 153 }
def p9_blocked : Nat → Nat := fun i => ([0, 1, 4, 5, 6, 9, 10, 11, 12, 15, 18, 19, 22, 25, 28, 30, 31, 32, 35, 38, 39, 40, 42, 45, 47, 48, 49, 76, 77, 78, 79, 82, 85, 86, 87, 90, 91, 92, 95, 96, 99] : List Nat).getD i 0
abbrev c6_firstUnreached : ByteArray := prog_6_method_2_code
abbrev y6_firstUnreached : MethodName := ⟨"ChoraleSearch$Reach", "firstUnreached", "()I"⟩
def w6_firstUnreached : List Cond := Cond.code y6_firstUnreached c6_firstUnreached 4 (some .int) :: ri_gT
abbrev r6_firstUnreached : Room := { frames := 5, cells := 0, slots := 0, locals := 116 }
def p6_firstUnreached : Nat → Nat := fun i => ([0, 2, 3, 4, 5, 6, 7, 10, 13, 16, 17, 18, 21, 22, 23, 26, 27, 29, 32, 33, 34, 37, 40, 41] : List Nat).getD i 0
abbrev c6_markReached : ByteArray := prog_6_method_3_code
abbrev y6_markReached : MethodName := ⟨"ChoraleSearch$Reach", "markReached", "(I)Z"⟩
def w6_markReached : List Cond := Cond.code y6_markReached c6_markReached 6 (some .boolean) :: ri_gT
abbrev r6_markReached : Room := { frames := 4, cells := 0, slots := 0, locals := 91 }
def p6_markReached : Nat → Nat := fun i => ([0, 1, 4, 7, 8, 9, 10, 11, 12, 13, 15, 17, 18, 21, 24, 25, 26, 27, 30, 32, 33, 36, 38, 39, 42, 44, 46, 49, 50, 53, 54, 55, 56, 58, 59, 60, 63, 66, 67] : List Nat).getD i 0
abbrev c6_isEntered : ByteArray := prog_6_method_4_code
abbrev y6_isEntered : MethodName := ⟨"ChoraleSearch$Reach", "isEntered", "(II)Z"⟩
def w6_isEntered : List Cond := Cond.code y6_isEntered c6_isEntered 5 (some .boolean) :: ri_gT
abbrev r6_isEntered : Room := { frames := 3, cells := 0, slots := 0, locals := 67 }
def p6_isEntered : Nat → Nat := fun i => ([0, 1, 4, 5, 6, 7, 10, 13, 14, 15, 16, 17, 18, 19, 21, 23, 24, 27, 30, 31, 33, 34, 37, 40, 41, 44, 45, 48, 50, 51, 52, 55, 58, 59, 60, 63, 66, 67] : List Nat).getD i 0
abbrev c5_isMarked : ByteArray := prog_5_method_4_code
abbrev y5_isMarked : MethodName := ⟨"ChoraleSearch$Layer", "isMarked", "(II)Z"⟩
def w5_isMarked : List Cond := Cond.code y5_isMarked c5_isMarked 3 (some .boolean) :: ri_gT
abbrev r5_isMarked : Room := { frames := 0, cells := 0, slots := 0, locals := 0 }
def p5_isMarked : Nat → Nat := fun i => ([0, 1, 4, 5, 6, 7, 8, 11, 12, 15, 16] : List Nat).getD i 0
abbrev c6_barringRules : ByteArray := prog_6_method_7_code
abbrev y6_barringRules : MethodName := ⟨"ChoraleSearch$Reach", "barringRules", "(I)I"⟩
def w6_barringRules : List Cond := Cond.code y6_barringRules c6_barringRules 6 (some .int) :: ri_gT
abbrev r6_barringRules : Room := { frames := 5, cells := 0, slots := 0, locals := 118 }
def p6_barringRules : Nat → Nat := fun i => ([0, 1, 4, 7, 8, 9, 10, 11, 14, 17, 18, 21, 22, 25, 26, 29, 30, 31, 34, 37, 38, 39, 40, 41, 42, 43, 45, 46, 48, 50, 51, 54, 57, 59, 62, 65, 66, 68, 69, 72, 75, 77, 78, 79, 82, 84, 85, 86, 89, 90, 92, 95, 98, 100] : List Nat).getD i 0
abbrev c2_barring : ByteArray := prog_9_method_9_code
abbrev y2_barring : MethodName := ⟨"ChoraleSearch$StateRules", "barring", "(I)I"⟩
def w2_barring : List Cond := Cond.code y2_barring c2_barring 5 (some .int) :: ri_gT
abbrev r2_barring : Room := { frames := 4, cells := 0, slots := 0, locals := 94 }
def p2_barring : Nat → Nat := fun i => ([0, 1, 4, 5, 8, 9, 10, 11, 12, 14, 16, 18, 21, 22, 24, 25, 26, 27, 28, 31, 32, 33, 35, 38, 41, 42, 43, 46, 49, 51, 54, 55, 56, 57, 58, 59, 61, 64, 67, 69, 72, 73, 74, 75, 76, 77, 79, 82, 85, 87, 90, 91, 92, 93, 94, 95, 96, 98, 101, 104, 106, 109, 110, 111, 112, 115, 118, 119] : List Nat).getD i 0
abbrev c2_surveyVoices : ByteArray := prog_9_method_10_code
abbrev y2_surveyVoices : MethodName := ⟨"ChoraleSearch$StateRules", "surveyVoices", "(II)Z"⟩
def w2_surveyVoices : List Cond := Cond.code y2_surveyVoices c2_surveyVoices 4 (some .boolean) :: ri_gT
abbrev r2_surveyVoices : Room := { frames := 3, cells := 0, slots := 0, locals := 71 }
def p2_surveyVoices : Nat → Nat := fun i => ([0, 1, 2, 3, 4, 7, 8, 9, 10, 11, 14, 15, 18, 19, 20, 23, 24, 25, 28, 31, 32] : List Nat).getD i 0
abbrev c2_surveyVoice : ByteArray := prog_9_method_11_code
abbrev y2_surveyVoice : MethodName := ⟨"ChoraleSearch$StateRules", "surveyVoice", "(III)V"⟩
def w2_surveyVoice : List Cond := Cond.code y2_surveyVoice c2_surveyVoice 7 none :: ri_gT
abbrev r2_surveyVoice : Room := { frames := 2, cells := 0, slots := 0, locals := 45 }
def p2_surveyVoice : Nat → Nat := fun i => ([0, 1, 4, 5, 6, 7, 8, 11, 12, 13, 16, 18, 19, 22, 23, 24, 27, 29, 31, 33, 36, 37, 38, 40, 42, 43, 46, 48, 50, 52, 55, 56, 57, 58, 60, 63, 66, 67, 70, 71, 72, 75, 76, 79, 80, 82, 83, 84, 87, 88, 90, 91, 92, 95, 96, 97, 98, 99, 101, 102, 103, 104, 107, 110] : List Nat).getD i 0
abbrev c2_memberAt : ByteArray := prog_9_method_12_code
abbrev y2_memberAt : MethodName := ⟨"ChoraleSearch$StateRules", "memberAt", "(II)I"⟩
def w2_memberAt : List Cond := Cond.code y2_memberAt c2_memberAt 4 (some .int) :: ri_gT
abbrev r2_memberAt : Room := { frames := 1, cells := 0, slots := 0, locals := 22 }
def p2_memberAt : Nat → Nat := fun i => ([0, 1, 2, 3, 4, 7, 8, 11, 12, 13, 16, 17, 20, 21, 22, 25, 28, 30] : List Nat).getD i 0
abbrev c2_maySound : ByteArray := prog_9_method_13_code
abbrev y2_maySound : MethodName := ⟨"ChoraleSearch$StateRules", "maySound", "(III)Z"⟩
def w2_maySound : List Cond := Cond.code y2_maySound c2_maySound 4 (some .boolean) :: ri_gT
abbrev r2_maySound : Room := { frames := 0, cells := 0, slots := 0, locals := 0 }
def p2_maySound : Nat → Nat := fun i => ([0, 1, 2, 5, 6, 9, 12, 13, 14, 16, 19, 20, 23, 26, 27, 28, 29, 32, 33, 36, 37] : List Nat).getD i 0
abbrev c2_someBreak3 : ByteArray := prog_9_method_14_code
abbrev y2_someBreak3 : MethodName := ⟨"ChoraleSearch$StateRules", "someBreak3", "()Z"⟩
def w2_someBreak3 : List Cond := Cond.code y2_someBreak3 c2_someBreak3 2 (some .boolean) :: ri_gT
abbrev r2_someBreak3 : Room := { frames := 0, cells := 0, slots := 0, locals := 0 }
def p2_someBreak3 : Nat → Nat := fun i => ([0, 1, 2, 3, 4, 7, 8, 11, 12, 13, 14, 15, 16, 19, 20, 21, 24, 25, 28, 29, 30, 31, 34, 35, 36, 37, 38, 39, 42, 43, 44, 47, 48, 49, 52, 55, 56] : List Nat).getD i 0
abbrev c2_someBreak4 : ByteArray := prog_9_method_15_code
abbrev y2_someBreak4 : MethodName := ⟨"ChoraleSearch$StateRules", "someBreak4", "(I)Z"⟩
def w2_someBreak4 : List Cond := Cond.code y2_someBreak4 c2_someBreak4 2 (some .boolean) :: ri_gT
abbrev r2_someBreak4 : Room := { frames := 1, cells := 0, slots := 0, locals := 22 }
def p2_someBreak4 : Nat → Nat := fun i => ([0, 1, 2, 5, 8, 9, 10, 13, 16, 17, 20, 21, 22, 25, 27, 30, 31, 32, 35, 38, 39, 42, 43] : List Nat).getD i 0
abbrev c2_canMiss : ByteArray := prog_9_method_16_code
abbrev y2_canMiss : MethodName := ⟨"ChoraleSearch$StateRules", "canMiss", "(I)Z"⟩
def w2_canMiss : List Cond := Cond.code y2_canMiss c2_canMiss 3 (some .boolean) :: ri_gT
abbrev r2_canMiss : Room := { frames := 0, cells := 0, slots := 0, locals := 0 }
def p2_canMiss : Nat → Nat := fun i => ([0, 1, 2, 3, 4, 7, 8, 11, 12, 13, 14, 15, 16, 19, 20, 21, 24, 27, 28] : List Nat).getD i 0
abbrev c2_someBreak5 : ByteArray := prog_9_method_17_code
abbrev y2_someBreak5 : MethodName := ⟨"ChoraleSearch$StateRules", "someBreak5", "(I)Z"⟩
def w2_someBreak5 : List Cond := Cond.code y2_someBreak5 c2_someBreak5 3 (some .boolean) :: ri_gT
abbrev r2_someBreak5 : Room := { frames := 2, cells := 0, slots := 0, locals := 45 }
def p2_someBreak5 : Nat → Nat := fun i => ([0, 1, 2, 5, 8, 9, 10, 11, 12, 13, 16, 19, 22, 23, 24, 27, 28, 31, 34, 35, 37, 40, 41, 42, 45, 48, 49, 52, 53] : List Nat).getD i 0
abbrev c2_canDouble : ByteArray := prog_9_method_18_code
abbrev y2_canDouble : MethodName := ⟨"ChoraleSearch$StateRules", "canDouble", "(I)Z"⟩
def w2_canDouble : List Cond := Cond.code y2_canDouble c2_canDouble 4 (some .boolean) :: ri_gT
abbrev r2_canDouble : Room := { frames := 0, cells := 0, slots := 0, locals := 0 }
def p2_canDouble : Nat → Nat := fun i => ([0, 1, 2, 3, 4, 5, 6, 9, 10, 11, 14, 15, 16, 17, 18, 19, 20, 21, 22, 25, 28, 29, 30, 33, 34, 37, 38] : List Nat).getD i 0
abbrev c2_someBreak6 : ByteArray := prog_9_method_19_code
abbrev y2_someBreak6 : MethodName := ⟨"ChoraleSearch$StateRules", "someBreak6", "(II)Z"⟩
def w2_someBreak6 : List Cond := Cond.code y2_someBreak6 c2_someBreak6 3 (some .boolean) :: ri_gT
abbrev r2_someBreak6 : Room := { frames := 1, cells := 0, slots := 0, locals := 21 }
def p2_someBreak6 : Nat → Nat := fun i => ([0, 1, 4, 7, 8, 9, 12, 14, 15, 16, 17, 18, 21, 22, 23, 24, 27, 28, 31, 34, 35, 38, 39, 42, 43, 44, 45, 48, 49, 52, 53] : List Nat).getD i 0
abbrev c6_barringSteps : ByteArray := prog_6_method_8_code
abbrev y6_barringSteps : MethodName := ⟨"ChoraleSearch$Reach", "barringSteps", "(ILChoraleSearch$Layer;)I"⟩
def w6_barringSteps : List Cond := Cond.code y6_barringSteps c6_barringSteps 5 (some .int) :: ri_gT
abbrev r6_barringSteps : Room := { frames := 3, cells := 0, slots := 0, locals := 67 }
def p6_barringSteps : Nat → Nat := fun i => ([0, 1, 2, 3, 5, 7, 8, 11, 14, 15, 18, 21, 22, 23, 26, 27, 28, 31, 33, 34, 37, 38, 39, 42, 45, 46] : List Nat).getD i 0
abbrev c3_barring : ByteArray := prog_10_method_3_code
abbrev y3_barring : MethodName := ⟨"ChoraleSearch$StepRules", "barring", "(II)I"⟩
def w3_barring : List Cond := Cond.code y3_barring c3_barring 3 (some .int) :: ri_gT
abbrev r3_barring : Room := { frames := 2, cells := 0, slots := 0, locals := 45 }
def p3_barring : Nat → Nat := fun i => ([0, 1, 2, 3, 6, 7, 10, 13, 16, 19, 20, 21, 24, 27, 30, 33, 34, 35, 36, 39, 42, 45, 48, 49, 50, 51, 54, 57, 60, 63, 64, 65, 66, 69, 72, 75, 78, 79, 80, 81, 84, 87, 90, 93, 94, 95] : List Nat).getD i 0
abbrev c9_repair : ByteArray := prog_1_method_19_code
abbrev y9_repair : MethodName := ⟨"ChoraleSearch", "repair", "()I"⟩
def w9_repair : List Cond := Cond.code y9_repair c9_repair 1 (some .int) :: ri_gT
abbrev r9_repair : Room := { frames := 6, cells := 0, slots := 0, locals := 155 }
def p9_repair : Nat → Nat := fun i => ([0, 1, 4, 7, 8, 11, 14, 17, 19, 20, 21, 24, 27, 29, 32, 33, 34, 35, 38, 41] : List Nat).getD i 0
abbrev c6_noteToGiveWay : ByteArray := prog_6_method_9_code
abbrev y6_noteToGiveWay : MethodName := ⟨"ChoraleSearch$Reach", "noteToGiveWay", "()I"⟩
def w6_noteToGiveWay : List Cond := Cond.code y6_noteToGiveWay c6_noteToGiveWay 4 (some .int) :: ri_gT
abbrev r6_noteToGiveWay : Room := { frames := 5, cells := 0, slots := 0, locals := 132 }
def p6_noteToGiveWay : Nat → Nat := fun i => ([0, 1, 4, 5, 6, 7, 8, 11, 14, 15, 16, 19, 20, 23, 26, 27, 28, 29, 30, 32, 35, 38, 39, 40, 41, 42, 43, 46, 49, 50, 52, 53, 54, 57, 58, 61, 62, 65, 66, 69, 72, 73, 74, 75, 76, 79, 82, 85, 88, 90, 91, 92, 93, 96, 99, 100, 101, 104, 107, 109] : List Nat).getD i 0
abbrev c6_markGoingOn : ByteArray := prog_6_method_5_code
abbrev y6_markGoingOn : MethodName := ⟨"ChoraleSearch$Reach", "markGoingOn", "()V"⟩
def w6_markGoingOn : List Cond := Cond.code y6_markGoingOn c6_markGoingOn 4 none :: ri_gT
abbrev r6_markGoingOn : Room := { frames := 4, cells := 0, slots := 0, locals := 91 }
def p6_markGoingOn : Nat → Nat := fun i => ([0, 1, 4, 7, 8, 9, 10, 11, 14, 15, 18, 21, 22, 23, 24, 25, 26, 27, 28, 31, 34, 35, 36, 37, 40, 41, 42, 45, 48, 49, 52, 53, 54, 55, 56, 57, 58, 61, 64, 67, 70] : List Nat).getD i 0
abbrev c6_goesOn : ByteArray := prog_6_method_6_code
abbrev y6_goesOn : MethodName := ⟨"ChoraleSearch$Reach", "goesOn", "(II)Z"⟩
def w6_goesOn : List Cond := Cond.code y6_goesOn c6_goesOn 5 (some .boolean) :: ri_gT
abbrev r6_goesOn : Room := { frames := 3, cells := 0, slots := 0, locals := 67 }
def p6_goesOn : Nat → Nat := fun i => ([0, 1, 4, 5, 8, 11, 12, 13, 14, 17, 20, 21, 22, 23, 24, 25, 26, 28, 30, 31, 34, 37, 38, 40, 41, 44, 47, 48, 51, 52, 53, 56, 58, 59, 62, 65, 66, 67, 70, 73, 74] : List Nat).getD i 0
abbrev c6_trialJoins : ByteArray := prog_6_method_10_code
abbrev y6_trialJoins : MethodName := ⟨"ChoraleSearch$Reach", "trialJoins", "(I)Z"⟩
def w6_trialJoins : List Cond := Cond.code y6_trialJoins c6_trialJoins 3 (some .boolean) :: ri_gT
abbrev r6_trialJoins : Room := { frames := 4, cells := 0, slots := 0, locals := 91 }
def p6_trialJoins : Nat → Nat := fun i => ([0, 1, 2, 3, 4, 7, 10, 13, 14, 15, 16, 19, 22, 23, 24, 27, 30, 31, 32, 33, 36, 39, 40, 41, 44, 47, 48, 49, 52, 55, 56] : List Nat).getD i 0
abbrev c9_passing : ByteArray := prog_1_method_20_code
abbrev y9_passing : MethodName := ⟨"ChoraleSearch", "passing", "(II)I"⟩
def w9_passing : List Cond := Cond.code y9_passing c9_passing 7 (some .int) :: ri_gT
abbrev r9_passing : Room := { frames := 2, cells := 0, slots := 0, locals := 45 }
def p9_passing : Nat → Nat := fun i => ([0, 1, 2, 5, 8, 9, 12, 13, 14, 17, 20, 21, 22, 25, 26, 29, 32, 33, 34, 35, 38, 39, 40, 43, 44, 47, 48, 49, 52, 53, 54, 55, 56, 59, 60, 63, 65, 67, 68, 69, 72, 74, 76, 77, 80, 82, 83, 86, 88, 89, 90, 92, 95, 97, 98, 101, 103, 104, 105, 108, 111, 113, 114, 115, 116, 117, 120, 122, 123, 124, 127, 130, 132, 133, 134, 137, 139] : List Nat).getD i 0
abbrev c1_inScale : ByteArray := prog_4_method_13_code
abbrev y1_inScale : MethodName := ⟨"ChoraleSearch$Harmony", "inScale", "(I)Z"⟩
def w1_inScale : List Cond := Cond.code y1_inScale c1_inScale 4 (some .boolean) :: ri_gT
abbrev r1_inScale : Room := { frames := 1, cells := 0, slots := 0, locals := 22 }
def p1_inScale : Nat → Nat := fun i => ([0, 1, 2, 5, 6, 8, 11, 12, 13, 16, 17, 20, 23, 26, 29, 30, 31, 32, 33, 34, 35, 36, 39, 40, 43, 44] : List Nat).getD i 0
abbrev c14_floorMod : ByteArray := prog_15_method_50_code
abbrev y14_floorMod : MethodName := ⟨"java/lang/Math", "floorMod", "(II)I"⟩
def w14_floorMod : List Cond := Cond.code y14_floorMod c14_floorMod 3 (some .int) :: ri_gT
abbrev r14_floorMod : Room := { frames := 0, cells := 0, slots := 0, locals := 0 }
def p14_floorMod : Nat → Nat := fun i => ([0, 1, 2, 3, 4, 5, 6, 7, 10, 11, 14, 15, 16, 17, 18, 19] : List Nat).getD i 0
abbrev c9_count : ByteArray := prog_1_method_21_code
abbrev y9_count : MethodName := ⟨"ChoraleSearch", "count", "(I)I"⟩
def w9_count : List Cond := Cond.code y9_count c9_count 2 (some .int) :: ri_gT
abbrev r9_count : Room := { frames := 1, cells := 0, slots := 0, locals := 25 }
def p9_count : Nat → Nat := fun i => ([0, 1, 40, 41, 44, 47, 48, 49, 52, 55, 56, 57, 60, 63, 64, 65, 68, 71, 72, 73, 76, 79, 80, 81, 84, 87, 90, 91, 92] : List Nat).getD i 0
abbrev c0_givenNotes : ByteArray := prog_8_method_3_code
abbrev y0_givenNotes : MethodName := ⟨"ChoraleSearch$Score", "givenNotes", "()I"⟩
def w0_givenNotes : List Cond := Cond.code y0_givenNotes c0_givenNotes 6 (some .int) :: ri_gT
abbrev r0_givenNotes : Room := { frames := 0, cells := 0, slots := 0, locals := 0 }
def p0_givenNotes : Nat → Nat := fun i => ([0, 1, 2, 3, 6, 7, 8, 9, 10, 11, 13, 15, 16, 19, 20, 22, 23, 25, 27, 29, 32, 35, 38, 41, 42] : List Nat).getD i 0
abbrev c13_bitCount : ByteArray := prog_14_method_49_code
abbrev y13_bitCount : MethodName := ⟨"java/lang/Integer", "bitCount", "(I)I"⟩
def w13_bitCount : List Cond := Cond.code y13_bitCount c13_bitCount 1 (some .int) :: ri_gT
abbrev r13_bitCount : Room := { frames := 0, cells := 0, slots := 0, locals := 0 }
def p13_bitCount : Nat → Nat := fun i => ([0, 1, 2, 3, 4, 7, 8, 9, 10, 11, 14, 15, 16, 17, 18, 21, 22, 23, 24, 25, 26, 27, 28, 29, 32, 33, 34, 35, 36, 38, 39, 40, 41, 42, 43, 45, 46, 47, 48, 49, 51, 52] : List Nat).getD i 0
abbrev c9_member : ByteArray := prog_1_method_22_code
abbrev y9_member : MethodName := ⟨"ChoraleSearch", "member", "(II)I"⟩
def w9_member : List Cond := Cond.code y9_member c9_member 3 (some .int) :: ri_gT
abbrev r9_member : Room := { frames := 1, cells := 0, slots := 0, locals := 22 }
def p9_member : Nat → Nat := fun i => ([0, 1, 4, 7, 8, 11, 12, 13, 16, 17, 18, 19, 22, 23, 24, 27] : List Nat).getD i 0
abbrev c10_init : ByteArray := prog_13_method_3_code
abbrev y10_init : MethodName := ⟨"ChoraleSearchModel", "<init>", "()V"⟩
def w10_init : List Cond := Cond.code y10_init c10_init 2 none :: ri_gT
abbrev r10_init : Room := { frames := 1, cells := 100, slots := 200000, locals := 20 }
def p10_init : Nat → Nat := fun i => ([0, 1, 4, 5, 7, 9, 10, 11, 12, 13, 14, 15, 16, 17, 18, 19, 21, 22, 23, 24, 25, 26, 27, 28, 29, 30, 31, 32, 33, 34, 35, 37, 39, 40, 41, 43, 44, 45, 46, 48, 49, 50, 51, 53, 55, 56, 57, 59, 61, 62, 63, 65, 66, 67, 68, 70, 71, 72, 73, 75, 77, 78, 79, 81, 82, 83, 84, 86, 87, 88, 89, 91, 93, 94, 95, 97, 99, 100, 101, 103, 104, 105, 106, 108, 109, 110, 111, 113, 115, 116, 117, 119, 120, 121, 122, 124, 125, 126, 127, 129, 130, 131, 132, 134, 136, 137, 138, 140, 141, 142, 143, 145, 146, 147, 148, 150, 151, 152, 153, 155, 157, 158, 159, 161, 163, 164, 165, 167, 168, 169, 170, 172, 173, 174, 175, 177, 178, 179, 180, 182, 183, 184, 185, 187, 189, 190, 191, 193, 194, 195, 196, 198, 199, 200, 201, 203, 205, 206, 207, 209, 211, 212, 213, 215, 216, 217, 218, 220, 221, 222, 223, 225, 227, 228, 229, 231, 233, 234, 235, 237, 238, 239, 240, 242, 243, 244, 245, 247, 249, 250, 251, 253, 255, 256, 257, 259, 260, 261, 262, 264, 265, 266, 267, 269, 270, 271, 272, 274, 276, 277, 278, 280, 282, 283, 286, 287, 289, 291, 292, 293, 294, 295, 296, 297, 298, 299, 300, 301, 303, 304, 305, 306, 307, 308, 309, 310, 311, 312, 313, 314, 315, 316, 317, 319, 321, 322, 323, 325, 326, 327, 328, 330, 331, 332, 333, 335, 337, 338, 339, 341, 343, 344, 345, 347, 348, 349, 350, 352, 353, 354, 355, 357, 359, 360, 361, 363, 364, 365, 366, 368, 369, 370, 371, 373, 375, 376, 377, 379, 381, 382, 383, 385, 386, 387, 388, 390, 391, 392, 393, 395, 397, 398, 399, 401, 402, 403, 404, 406, 407, 408, 409, 411, 412, 413, 414, 416, 418, 419, 420, 422, 423, 424, 425, 427, 428, 429, 430, 432, 433, 434, 435, 437, 439, 440, 441, 443, 445, 446, 447, 449, 450, 451, 452, 454, 455, 456, 457, 459, 460, 461, 462, 464, 465, 466, 467, 469, 471, 472, 473, 475, 476, 477, 478, 480, 481, 482, 483, 485, 487, 488, 489, 491, 493, 494, 495, 497, 498, 499, 500, 502, 503, 504, 505, 507, 509, 510, 511, 513, 515, 516, 517, 519, 520, 521, 522, 524, 525, 526, 527, 529, 531, 532, 533, 535, 537, 538, 539, 541, 542, 543, 544, 546, 547, 548, 549, 551, 552, 553, 554, 556, 558, 559, 560, 562, 564, 565, 568, 569, 571, 573, 574, 575, 576, 577, 578, 579, 580, 581, 582, 583, 584, 585, 586, 587, 588, 589, 590, 591, 592, 593, 594, 595, 596, 597, 598, 600, 601, 602, 603, 605, 606, 607, 608, 610, 611, 612, 613, 615, 616, 617, 618, 620, 621, 622, 623, 625, 626, 627, 630, 631, 633, 635, 636, 637, 638, 639, 640, 641, 642, 643, 644, 645, 646, 647, 648, 649, 650, 651, 652, 653, 654, 655, 656, 657, 658, 659, 660, 662, 663, 664, 665, 667, 668, 669, 670, 672, 673, 674, 675, 677, 678, 679, 680, 682, 683, 684, 685, 687, 688, 689, 692, 693, 694, 697, 698, 700, 702, 705, 706, 708, 710, 713, 714, 716, 718, 721, 722, 724, 726, 729, 730, 732, 734, 737, 738, 740, 742, 743, 744, 745, 746, 747, 748, 749, 750, 751, 752, 753, 754, 755, 756, 757, 758, 759, 760, 761, 762, 763, 764, 765, 766, 767, 769, 770, 771, 772, 774, 775, 776, 777, 779, 780, 781, 784, 785, 786, 788, 789, 790, 792, 793, 794, 795, 797, 798, 799, 800, 802, 803, 804, 805, 807, 808, 811, 812, 813, 815, 816, 817, 819, 820, 821, 822, 824, 825, 826, 827, 829, 830, 831, 832, 834, 835, 838, 839, 842, 844, 847, 848, 851, 853, 856, 857, 860, 862, 865, 866, 868, 870, 873, 874, 877, 879, 882, 883, 886, 888, 891, 892, 895, 897, 900, 901, 904, 906, 909, 910, 913, 915, 918, 919, 922, 924, 927, 928, 931, 933, 936, 937, 939, 941, 944, 945, 946, 948, 951, 952, 953, 955, 958, 959, 960, 962, 965, 966, 967, 969, 972, 973, 974, 977, 978, 979, 980, 982, 985, 986, 989, 990, 992, 993, 996, 999, 1000, 1001, 1002, 1004, 1007, 1008, 1011, 1012, 1014, 1015, 1016, 1019, 1020, 1022, 1023, 1026, 1029, 1030, 1031, 1032, 1034, 1037, 1038, 1041, 1042, 1043, 1044, 1047, 1050] : List Nat).getD i 0
abbrev c10_key : ByteArray := prog_13_method_7_code
abbrev y10_key : MethodName := ⟨"ChoraleSearchModel", "key", "(II)I"⟩
def w10_key : List Cond := Cond.code y10_key c10_key 3 (some .int) :: ri_gT
abbrev r10_key : Room := { frames := 1, cells := 0, slots := 0, locals := 25 }
def p10_key : Nat → Nat := fun i => ([0, 1, 2, 5, 6, 7, 8, 11, 14, 17, 18, 19, 20, 21, 24, 27, 28, 29, 30, 31, 34, 35, 36, 37, 40, 41, 44, 45, 48, 49, 50, 53, 54] : List Nat).getD i 0
abbrev c10_in : ByteArray := prog_13_method_2_code
abbrev y10_in : MethodName := ⟨"ChoraleSearchModel", "in", "(JJJ)Z"⟩
def w10_in : List Cond := Cond.code y10_in c10_in 6 (some .boolean) :: ri_gT
abbrev r10_in : Room := { frames := 0, cells := 0, slots := 0, locals := 0 }
def p10_in : Nat → Nat := fun i => ([0, 1, 2, 3, 6, 7, 9, 10, 13, 14, 17, 18] : List Nat).getD i 0
abbrev c10_places : ByteArray := prog_13_method_8_code
abbrev y10_places : MethodName := ⟨"ChoraleSearchModel", "places", "(I)I"⟩
def w10_places : List Cond := Cond.code y10_places c10_places 5 (some .int) :: ri_gT
abbrev r10_places : Room := { frames := 1, cells := 0, slots := 0, locals := 25 }
def p10_places : Nat → Nat := fun i => ([0, 1, 2, 5, 6, 7, 8, 11, 14, 17, 18, 19, 20, 23, 24, 25, 26, 29, 30, 31, 32, 34, 37, 38, 40, 42, 43, 46, 47, 50, 51, 52, 53, 55, 56, 58, 59, 62, 65, 66, 69, 70, 72, 73, 74, 77, 78, 80, 81, 82, 85, 86, 87, 88, 91, 94, 95, 96, 99, 100] : List Nat).getD i 0
abbrev c10_given : ByteArray := prog_13_method_10_code
abbrev y10_given : MethodName := ⟨"ChoraleSearchModel", "given", "(III)I"⟩
def w10_given : List Cond := Cond.code y10_given c10_given 5 (some .int) :: ri_gT
abbrev r10_given : Room := { frames := 2, cells := 0, slots := 0, locals := 46 }
def p10_given : Nat → Nat := fun i => ([0, 1, 2, 5, 6, 7, 8, 11, 14, 17, 18, 19, 22, 25, 26, 27, 30, 33, 36, 39, 40, 41, 42, 45, 46, 47, 48, 49, 50, 51, 53, 54, 57, 58, 59, 60, 61, 62, 63, 64, 65, 66, 69, 71] : List Nat).getD i 0
abbrev c10_noPlace : ByteArray := prog_13_method_9_code
abbrev y10_noPlace : MethodName := ⟨"ChoraleSearchModel", "noPlace", "(I)Z"⟩
def w10_noPlace : List Cond := Cond.code y10_noPlace c10_noPlace 2 (some .boolean) :: ri_gT
abbrev r10_noPlace : Room := { frames := 1, cells := 0, slots := 0, locals := 25 }
def p10_noPlace : Nat → Nat := fun i => ([0, 1, 2, 3, 4, 7, 8, 9, 10, 13, 16, 17, 20, 21] : List Nat).getD i 0
abbrev c10_free : ByteArray := prog_13_method_11_code
abbrev y10_free : MethodName := ⟨"ChoraleSearchModel", "free", "(II)I"⟩
def w10_free : List Cond := Cond.code y10_free c10_free 4 (some .int) :: ri_gT
abbrev r10_free : Room := { frames := 2, cells := 0, slots := 0, locals := 46 }
def p10_free : Nat → Nat := fun i => ([0, 1, 2, 5, 6, 7, 8, 11, 14, 17, 18, 19, 22, 25, 26, 27, 28, 31, 32, 33, 34, 35, 36, 37, 38, 39, 42, 43, 44, 45, 46, 47, 49, 50, 51, 52, 55, 56] : List Nat).getD i 0
abbrev c10_figure : ByteArray := prog_13_method_12_code
abbrev y10_figure : MethodName := ⟨"ChoraleSearchModel", "figure", "(II)I"⟩
def w10_figure : List Cond := Cond.code y10_figure c10_figure 4 (some .int) :: ri_gT
abbrev r10_figure : Room := { frames := 2, cells := 0, slots := 0, locals := 46 }
def p10_figure : Nat → Nat := fun i => ([0, 1, 2, 5, 6, 7, 10, 13, 14, 15, 18, 21, 24, 27, 28, 29, 30, 33, 34, 35, 36, 37, 40, 41, 42, 45, 47, 50, 51, 52, 53, 54, 57, 58] : List Nat).getD i 0
abbrev c10_inversion : ByteArray := prog_13_method_13_code
abbrev y10_inversion : MethodName := ⟨"ChoraleSearchModel", "inversion", "(II)I"⟩
def w10_inversion : List Cond := Cond.code y10_inversion c10_inversion 4 (some .int) :: ri_gT
abbrev r10_inversion : Room := { frames := 2, cells := 0, slots := 0, locals := 46 }
def p10_inversion : Nat → Nat := fun i => ([0, 1, 2, 5, 6, 7, 10, 13, 14, 15, 18, 21, 24, 27, 28, 29, 30, 33, 34, 35, 36, 37, 40, 41, 42, 45, 47, 50, 51, 52, 53, 54, 57, 58] : List Nat).getD i 0
abbrev c10_fermata : ByteArray := prog_13_method_14_code
abbrev y10_fermata : MethodName := ⟨"ChoraleSearchModel", "fermata", "(IZ)I"⟩
def w10_fermata : List Cond := Cond.code y10_fermata c10_fermata 4 (some .int) :: ri_gT
abbrev r10_fermata : Room := { frames := 2, cells := 0, slots := 0, locals := 46 }
def p10_fermata : Nat → Nat := fun i => ([0, 1, 2, 5, 6, 7, 10, 13, 14, 15, 16, 19, 20, 21, 24, 25, 28, 29, 30, 31, 34, 35, 36, 37, 38, 39, 42, 43] : List Nat).getD i 0
abbrev c10_style : ByteArray := prog_13_method_15_code
abbrev y10_style : MethodName := ⟨"ChoraleSearchModel", "style", "(IZ)I"⟩
def w10_style : List Cond := Cond.code y10_style c10_style 4 (some .int) :: ri_gT
abbrev r10_style : Room := { frames := 1, cells := 0, slots := 0, locals := 25 }
def p10_style : Nat → Nat := fun i => ([0, 1, 2, 5, 6, 7, 8, 11, 14, 17, 18, 19, 20, 23, 24, 25, 28, 29, 32, 33, 34, 35, 38, 39, 40, 41, 42, 43, 46, 47] : List Nat).getD i 0
abbrev c10_cost : ByteArray := prog_13_method_16_code
abbrev y10_cost : MethodName := ⟨"ChoraleSearchModel", "cost", "(II)I"⟩
def w10_cost : List Cond := Cond.code y10_cost c10_cost 4 (some .int) :: ri_gT
abbrev r10_cost : Room := { frames := 1, cells := 0, slots := 0, locals := 25 }
def p10_cost : Nat → Nat := fun i => ([0, 1, 2, 5, 6, 7, 8, 11, 14, 17, 18, 19, 20, 23, 26, 29, 30, 31, 32, 35, 36, 37, 38, 39, 42, 43, 44, 45, 46, 47, 50, 51] : List Nat).getD i 0
abbrev c10_range : ByteArray := prog_13_method_17_code
abbrev y10_range : MethodName := ⟨"ChoraleSearchModel", "range", "(III)I"⟩
def w10_range : List Cond := Cond.code y10_range c10_range 4 (some .int) :: ri_gT
abbrev r10_range : Room := { frames := 1, cells := 0, slots := 0, locals := 25 }
def p10_range : Nat → Nat := fun i => ([0, 1, 2, 5, 6, 7, 8, 11, 14, 17, 18, 19, 22, 25, 28, 31, 32, 33, 34, 35, 38, 41, 44, 45, 46, 47, 50, 51, 52, 53, 54, 57, 58, 59, 60, 61, 62, 65, 66] : List Nat).getD i 0
abbrev c10_states : ByteArray := prog_13_method_27_code
abbrev y10_states : MethodName := ⟨"ChoraleSearchModel", "states", "(I)I"⟩
def w10_states : List Cond := Cond.code y10_states c10_states 2 (some .int) :: ri_gT
abbrev r10_states : Room := { frames := 5, cells := 0, slots := 0, locals := 128 }
def p10_states : Nat → Nat := fun i => ([0, 1, 2, 5, 6, 7, 10, 13, 14, 17, 18, 19, 20, 21, 24] : List Nat).getD i 0
abbrev c10_findStates : ByteArray := prog_13_method_23_code
abbrev y10_findStates : MethodName := ⟨"ChoraleSearchModel", "findStates", "(IZZ)I"⟩
def w10_findStates : List Cond := Cond.code y10_findStates c10_findStates 11 (some .int) :: ri_gT
abbrev r10_findStates : Room := { frames := 4, cells := 0, slots := 0, locals := 98 }
def p10_findStates : Nat → Nat := fun i => ([0, 1, 3, 4, 5, 8, 9, 11, 13, 15, 18, 19, 22, 24, 25, 28, 29, 32, 33, 34, 36, 39, 40, 43, 44, 45, 47, 50, 51, 54, 55, 56, 58, 60, 61, 64, 65, 66, 69, 70, 73, 74, 76, 77, 78, 81, 82, 85, 86, 87, 90, 91, 94, 95, 96, 98, 100, 101, 104, 106, 108, 109, 112, 113, 116, 117, 118, 121, 122, 125, 126, 127, 129, 132, 135, 136, 137, 138, 140, 142, 145, 148, 149, 152, 153, 155, 156, 157, 160, 161, 164, 165, 166, 169, 170, 173, 174, 175, 177, 179, 180, 183, 185, 187, 188, 191, 192, 195, 196, 197, 200, 201, 204, 205, 206, 208, 211, 214, 215, 216, 217, 219, 221, 224, 227, 228, 231, 232, 234, 235, 236, 239, 240, 243, 244, 245, 248, 249, 252, 253, 254, 256, 258, 259, 262, 264, 266, 267, 270, 271, 274, 275, 276, 279, 280, 283, 284, 285, 287, 290, 293, 294, 295, 296, 298, 300, 303, 306, 307, 310, 311, 313, 314, 315, 316, 317, 319, 321, 324, 327, 328, 329, 331, 334, 336, 337, 338, 341, 343, 344, 347, 349, 352, 353, 356, 358, 361, 364, 365, 366, 368, 370, 373, 376, 379, 382, 385, 388, 391, 394, 397, 400, 403, 406, 408] : List Nat).getD i 0
abbrev c10_most : ByteArray := prog_13_method_20_code
abbrev y10_most : MethodName := ⟨"ChoraleSearchModel", "most", "(II)I"⟩
def w10_most : List Cond := Cond.code y10_most c10_most 2 (some .int) :: ri_gT
abbrev r10_most : Room := { frames := 0, cells := 0, slots := 0, locals := 0 }
def p10_most : Nat → Nat := fun i => ([0, 1, 2, 5, 6, 9, 10] : List Nat).getD i 0
abbrev c10_lesser : ByteArray := prog_13_method_21_code
abbrev y10_lesser : MethodName := ⟨"ChoraleSearchModel", "lesser", "(II)I"⟩
def w10_lesser : List Cond := Cond.code y10_lesser c10_lesser 2 (some .int) :: ri_gT
abbrev r10_lesser : Room := { frames := 0, cells := 0, slots := 0, locals := 0 }
def p10_lesser : Nat → Nat := fun i => ([0, 1, 2, 5, 6, 9, 10] : List Nat).getD i 0
abbrev c10_mayHave : ByteArray := prog_13_method_22_code
abbrev y10_mayHave : MethodName := ⟨"ChoraleSearchModel", "mayHave", "(IIII)Z"⟩
def w10_mayHave : List Cond := Cond.code y10_mayHave c10_mayHave 7 (some .boolean) :: ri_gT
abbrev r10_mayHave : Room := { frames := 2, cells := 0, slots := 0, locals := 46 }
def p10_mayHave : Nat → Nat := fun i => ([0, 1, 4, 5, 6, 7, 8, 9, 10, 12, 13, 15, 16, 19, 21, 23, 25, 28, 30, 31, 34, 36, 39, 40, 41, 44, 45, 48, 49, 50, 52, 55, 56, 59, 60, 61, 63, 66, 67, 70, 71] : List Nat).getD i 0
abbrev c10_memberOf : ByteArray := prog_13_method_6_code
abbrev y10_memberOf : MethodName := ⟨"ChoraleSearchModel", "memberOf", "(II)I"⟩
def w10_memberOf : List Cond := Cond.code y10_memberOf c10_memberOf 5 (some .int) :: ri_gT
abbrev r10_memberOf : Room := { frames := 1, cells := 0, slots := 0, locals := 22 }
def p10_memberOf : Nat → Nat := fun i => ([0, 1, 2, 5, 6, 7, 9, 11, 12, 15, 16, 17, 19, 22, 23, 26, 28, 29, 32, 35, 36] : List Nat).getD i 0
abbrev c10_degreeOf : ByteArray := prog_13_method_5_code
abbrev y10_degreeOf : MethodName := ⟨"ChoraleSearchModel", "degreeOf", "(I)I"⟩
def w10_degreeOf : List Cond := Cond.code y10_degreeOf c10_degreeOf 2 (some .int) :: ri_gT
abbrev r10_degreeOf : Room := { frames := 0, cells := 0, slots := 0, locals := 0 }
def p10_degreeOf : Nat → Nat := fun i => ([0, 1, 2, 5, 6, 8, 9, 11, 12] : List Nat).getD i 0
abbrev c10_degree : ByteArray := prog_13_method_4_code
abbrev y10_degree : MethodName := ⟨"ChoraleSearchModel", "degree", "(II)I"⟩
def w10_degree : List Cond := Cond.code y10_degree c10_degree 3 (some .int) :: ri_gT
abbrev r10_degree : Room := { frames := 0, cells := 0, slots := 0, locals := 0 }
def p10_degree : Nat → Nat := fun i => ([0, 1, 4, 7, 8, 11, 12, 13, 14, 15, 16, 17, 20, 21, 24, 25, 26, 27, 28, 29, 30] : List Nat).getD i 0
abbrev c10_barsState : ByteArray := prog_13_method_18_code
abbrev y10_barsState : MethodName := ⟨"ChoraleSearchModel", "barsState", "(II)I"⟩
def w10_barsState : List Cond := Cond.code y10_barsState c10_barsState 12 (some .int) :: ri_gT
abbrev r10_barsState : Room := { frames := 2, cells := 0, slots := 0, locals := 46 }
def p10_barsState : Nat → Nat := fun i => ([0, 1, 2, 3, 6, 7, 8, 9, 12, 13, 14, 17, 18, 21, 22, 23, 24, 27, 28, 29, 32, 33, 36, 37, 38, 39, 42, 43, 44, 47, 48, 51, 52, 53, 54, 57, 58, 59, 60, 62, 65, 66, 69, 70, 71, 72, 75, 76, 77, 78, 80, 83, 84, 87, 88, 89, 90, 93, 94, 95, 96, 98, 101, 102, 105, 106, 108, 110, 113, 114, 117, 119, 120, 121, 123, 124, 126, 127, 129, 130, 132, 133, 135, 137, 138, 141, 142, 143, 144, 147, 149, 150, 153, 155, 157, 159, 162, 163, 166, 167, 168, 170, 172, 174, 175, 178, 179, 182, 183, 184, 186, 188, 190, 191, 194, 195, 198, 199, 200, 202, 204, 205, 206, 209, 211, 212, 215, 217, 220, 221, 224, 225, 226, 228, 231, 234, 236, 239, 241, 244, 245, 246, 247, 250, 253, 255, 258, 259, 261, 262, 263, 264, 265, 268, 269, 271, 274, 275, 277, 280, 281, 282, 285, 286, 289, 292, 293, 296, 297, 299, 301, 304, 306, 307, 310, 312, 313, 316, 317, 319, 320, 321, 322, 323, 326, 327, 328, 331, 332, 335, 336, 337, 338, 341, 342, 343, 346, 349, 350, 353, 354, 356, 357, 360, 361, 362, 365, 366, 369, 370, 371, 374, 375, 376, 379, 380, 383, 384, 386, 388, 391, 393, 396, 397, 399, 400, 403, 404] : List Nat).getD i 0
abbrev c10_putState : ByteArray := prog_13_method_25_code
abbrev y10_putState : MethodName := ⟨"ChoraleSearchModel", "putState", "(III)V"⟩
def w10_putState : List Cond := Cond.code y10_putState c10_putState 7 none :: ri_gT
abbrev r10_putState : Room := { frames := 3, cells := 0, slots := 0, locals := 72 }
def p10_putState : Nat → Nat := fun i => ([0, 1, 3, 5, 8, 9, 12, 13, 14, 16, 17, 18, 19, 20, 23, 26, 29, 30, 31, 33, 34, 35, 36, 38, 39, 41, 43, 44, 47, 48, 51, 52, 54, 55, 56, 57, 59, 60, 61, 64, 65, 67, 68, 70, 71, 72, 73, 76, 79, 80, 83, 85, 86, 87, 88, 91, 93, 94, 95, 96, 99, 101, 102, 103, 104, 107, 109, 110, 111, 114, 117, 120, 121, 122, 124, 125, 127, 128, 130, 132, 133, 136, 137, 140, 141, 143, 144, 146, 147, 148, 151, 153, 154, 155, 158, 161, 162, 165, 167, 168, 169, 170, 173, 175, 176, 177, 180, 181] : List Nat).getD i 0
abbrev c10_orderTo : ByteArray := prog_13_method_24_code
abbrev y10_orderTo : MethodName := ⟨"ChoraleSearchModel", "orderTo", "(II)I"⟩
def w10_orderTo : List Cond := Cond.code y10_orderTo c10_orderTo 4 (some .int) :: ri_gT
abbrev r10_orderTo : Room := { frames := 0, cells := 0, slots := 0, locals := 0 }
def p10_orderTo : Nat → Nat := fun i => ([0, 1, 2, 3, 4, 7, 8, 11, 12, 13, 14, 15, 16, 17, 18, 21, 22, 23, 26, 27, 30, 31, 32, 33, 34, 35, 36, 37, 40, 41, 42, 45, 46, 49, 50, 51, 54, 57, 58, 61, 62, 63, 64, 67, 68, 71, 72] : List Nat).getD i 0
abbrev c10_costOfState : ByteArray := prog_13_method_19_code
abbrev y10_costOfState : MethodName := ⟨"ChoraleSearchModel", "costOfState", "(I)I"⟩
def w10_costOfState : List Cond := Cond.code y10_costOfState c10_costOfState 7 (some .int) :: ri_gT
abbrev r10_costOfState : Room := { frames := 2, cells := 0, slots := 0, locals := 46 }
def p10_costOfState : Nat → Nat := fun i => ([0, 1, 2, 3, 4, 5, 7, 8, 10, 12, 13, 16, 17, 18, 19, 22, 24, 25, 28, 30, 31, 33, 34, 37, 38, 41, 42, 43, 44, 45, 47, 48, 51, 52, 55, 56, 57, 58, 60, 62, 63, 66, 67, 70, 72, 73, 74, 77, 79, 80, 81, 82, 85, 86, 89, 91, 92, 95, 96, 97, 99, 102, 105, 106, 107, 108, 111, 112, 113, 116, 118, 120, 121, 124, 125, 128, 129, 130, 133, 134, 135, 137, 139, 140, 143, 144, 145, 147, 148, 151, 152, 155, 157, 158, 161, 163, 166, 168, 169, 172, 173, 176, 177, 178, 179, 181, 183, 184, 185, 188, 189, 192, 193, 194, 197, 198, 199, 202, 203, 206, 208, 209, 212, 213, 214] : List Nat).getD i 0
abbrev c10_solve : ByteArray := prog_13_method_39_code
abbrev y10_solve : MethodName := ⟨"ChoraleSearchModel", "solve", "(I)I"⟩
def w10_solve : List Cond := Cond.code y10_solve c10_solve 2 (some .int) :: ri_gT
abbrev r10_solve : Room := { frames := 6, cells := 0, slots := 0, locals := 149 }
def p10_solve : Nat → Nat := fun i => ([0, 1, 2, 5, 6, 7, 8, 11, 14, 17, 18, 19, 20, 21, 24, 25, 28, 31, 33, 34, 35, 36, 37, 40, 43, 44, 47, 48, 51] : List Nat).getD i 0
abbrev c10_findAll : ByteArray := prog_13_method_26_code
abbrev y10_findAll : MethodName := ⟨"ChoraleSearchModel", "findAll", "()Z"⟩
def w10_findAll : List Cond := Cond.code y10_findAll c10_findAll 2 (some .boolean) :: ri_gT
abbrev r10_findAll : Room := { frames := 5, cells := 0, slots := 0, locals := 128 }
def p10_findAll : Nat → Nat := fun i => ([0, 1, 2, 3, 4, 7, 10, 11, 14, 15, 16, 17, 18, 19, 22, 23, 24, 27, 28, 29, 32, 35, 36, 37, 40, 43, 44] : List Nat).getD i 0
abbrev c10_goBack : ByteArray := prog_13_method_37_code
abbrev y10_goBack : MethodName := ⟨"ChoraleSearchModel", "goBack", "(I)Z"⟩
def w10_goBack : List Cond := Cond.code y10_goBack c10_goBack 9 (some .boolean) :: ri_gT
abbrev r10_goBack : Room := { frames := 3, cells := 0, slots := 0, locals := 79 }
def p10_goBack : Nat → Nat := fun i => ([0, 1, 2, 3, 6, 7, 8, 9, 10, 13, 16, 17, 18, 20, 22, 25, 26, 27, 28, 31, 32, 33, 34, 37, 38, 41, 43, 44, 45, 46, 47, 50, 51, 52, 55, 56, 58, 59, 62, 64, 65, 66, 67, 70, 73, 76, 77, 78, 79, 80, 82, 84, 86, 88, 90, 91, 94, 95, 96, 97, 98, 99, 102, 103, 106, 108, 109, 112, 113, 115, 117, 120, 123, 124, 127, 129, 130, 131, 133, 135, 138, 139, 141, 142, 144, 146, 147, 150, 152, 153, 156, 157, 159, 161, 162, 165, 166, 168, 169, 171, 172, 173, 174, 176, 178, 181, 184, 187, 190, 193, 196, 199, 200, 201, 202, 205, 208, 209, 212, 213, 216, 217, 218, 221, 224, 225, 228, 229, 232, 233] : List Nat).getD i 0
abbrev c10_addWay : ByteArray := prog_13_method_34_code
abbrev y10_addWay : MethodName := ⟨"ChoraleSearchModel", "addWay", "(IIII)V"⟩
def w10_addWay : List Cond := Cond.code y10_addWay c10_addWay 9 none :: ri_gT
abbrev r10_addWay : Room := { frames := 1, cells := 0, slots := 0, locals := 24 }
def p10_addWay : Nat → Nat := fun i => ([0, 1, 4, 5, 6, 8, 10, 12, 14, 17, 18, 19, 20, 21, 23, 24, 25, 26, 27, 28, 30, 33, 36, 39, 42, 44, 45, 48, 49, 51, 52, 55, 57, 60, 61, 63, 65, 67, 69, 71, 74, 75, 78, 79, 80, 81, 83, 84, 85, 88, 89, 90, 91, 93, 94, 95, 96, 97, 98, 99, 102, 103, 104, 105, 107, 108, 109, 112, 113, 114, 115, 117, 118, 119, 120, 121, 122, 123, 126, 127, 128, 129, 131, 132, 133, 136, 137, 138, 139, 141, 142, 143, 144, 145, 146, 149, 152, 153, 156, 157, 158, 159, 161, 162, 163, 164, 165, 168, 169, 170, 171, 173, 174, 175, 176, 177, 180, 181, 182, 183, 185, 186, 188, 189, 190, 193, 194, 196, 197, 200, 202, 203, 204, 207, 208, 209] : List Nat).getD i 0
abbrev c10_isBehind : ByteArray := prog_13_method_35_code
abbrev y10_isBehind : MethodName := ⟨"ChoraleSearchModel", "isBehind", "(IIII)Z"⟩
def w10_isBehind : List Cond := Cond.code y10_isBehind c10_isBehind 5 (some .boolean) :: ri_gT
abbrev r10_isBehind : Room := { frames := 0, cells := 0, slots := 0, locals := 0 }
def p10_isBehind : Nat → Nat := fun i => ([0, 1, 4, 5, 6, 7, 10, 11, 14, 15, 16, 17, 20, 21, 24, 25, 26, 27, 30, 31, 32, 33, 36, 37, 40, 41, 42, 43, 46, 47, 50, 51, 54, 55, 58, 59, 60, 62, 65, 66, 69, 70] : List Nat).getD i 0
abbrev c10_barsStep : ByteArray := prog_13_method_32_code
abbrev y10_barsStep : MethodName := ⟨"ChoraleSearchModel", "barsStep", "(II)I"⟩
def w10_barsStep : List Cond := Cond.code y10_barsStep c10_barsStep 14 (some .int) :: ri_gT
abbrev r10_barsStep : Room := { frames := 2, cells := 0, slots := 0, locals := 46 }
def p10_barsStep : Nat → Nat := fun i => ([0, 1, 4, 5, 6, 7, 8, 11, 12, 13, 15, 16, 18, 21, 24, 27, 30, 31, 33, 34, 36, 38, 39, 42, 43, 46, 47, 48, 49, 51, 52, 53, 55, 56, 59, 60, 61, 62, 64, 65, 66, 68, 70, 72, 73, 76, 78, 80, 81, 82, 84, 86, 87, 90, 91, 94, 95, 96, 97, 99, 100, 101, 103, 104, 107, 108, 109, 110, 112, 113, 114, 116, 118, 120, 121, 124, 126, 128, 130, 133, 135, 137, 140, 142, 144, 146, 147, 150, 153, 155, 158, 160, 162, 165, 167, 170, 171, 173, 176, 179, 181, 183, 186, 188, 190, 193, 195, 197, 200, 202, 204, 207, 209, 212, 213, 215, 217, 220, 222, 223, 226, 227, 228, 229, 231, 232, 233, 234, 235, 238, 240, 241, 244, 246, 247, 250, 251, 252, 253, 255, 256, 257, 258, 259, 262, 264, 267, 268, 270, 272, 275, 277, 278, 281, 282, 285, 286, 288, 289, 290, 293, 294, 296, 299, 300, 302, 305, 307, 310, 312, 313, 316, 318, 321, 322, 324, 327, 329, 332, 334, 336, 337, 338, 341, 343, 346, 347, 349, 350, 352, 355, 356, 357, 359, 362, 363, 366, 368, 370, 373, 375, 377, 378, 379, 382, 384, 386, 387, 388, 391, 393, 396, 397, 399, 402, 405, 407] : List Nat).getD i 0
abbrev c10_units : ByteArray := prog_13_method_29_code
abbrev y10_units : MethodName := ⟨"ChoraleSearchModel", "units", "(II)I"⟩
def w10_units : List Cond := Cond.code y10_units c10_units 4 (some .int) :: ri_gT
abbrev r10_units : Room := { frames := 1, cells := 0, slots := 0, locals := 20 }
def p10_units : Nat → Nat := fun i => ([0, 1, 2, 5, 6, 7, 8, 11, 12, 13, 16, 44, 45, 48, 49, 52, 53, 54, 55, 56, 59, 60, 63, 64, 65, 68, 69, 72, 73, 74, 77, 78, 81, 82, 83, 86, 87, 90, 91, 94, 95, 96, 97, 100, 101, 104, 105, 108, 109, 110, 113, 114, 117, 118, 119, 120, 121, 124, 125, 127, 130, 131, 134, 135, 138, 139, 140, 143, 144, 147, 148, 150, 153, 154, 157, 158, 159, 160, 162, 165, 166, 168, 171, 172, 173, 176, 177, 179, 182, 183, 185, 188, 189, 190, 193, 194, 196, 199, 200, 201, 204, 205, 208, 209, 210, 211, 214, 215, 218, 219, 221, 224, 225, 227, 230, 231, 234, 235] : List Nat).getD i 0
abbrev c10_function : ByteArray := prog_13_method_28_code
abbrev y10_function : MethodName := ⟨"ChoraleSearchModel", "function", "(I)I"⟩
def w10_function : List Cond := Cond.code y10_function c10_function 1 (some .int) :: ri_gT
abbrev r10_function : Room := { frames := 0, cells := 0, slots := 0, locals := 0 }
def p10_function : Nat → Nat := fun i => ([0, 1, 4, 5, 6, 9, 10, 11, 14, 15, 18, 19, 20, 23, 24, 25, 28, 29, 31, 34, 35, 38, 39, 40, 43, 44, 46, 49, 50, 52, 55, 56, 59, 60] : List Nat).getD i 0
abbrev c10_size : ByteArray := prog_13_method_30_code
abbrev y10_size : MethodName := ⟨"ChoraleSearchModel", "size", "(I)I"⟩
def w10_size : List Cond := Cond.code y10_size c10_size 1 (some .int) :: ri_gT
abbrev r10_size : Room := { frames := 0, cells := 0, slots := 0, locals := 0 }
def p10_size : Nat → Nat := fun i => ([0, 1, 4, 5, 6, 9, 10] : List Nat).getD i 0
abbrev c10_apart : ByteArray := prog_13_method_31_code
abbrev y10_apart : MethodName := ⟨"ChoraleSearchModel", "apart", "(I)I"⟩
def w10_apart : List Cond := Cond.code y10_apart c10_apart 1 (some .int) :: ri_gT
abbrev r10_apart : Room := { frames := 0, cells := 0, slots := 0, locals := 0 }
def p10_apart : Nat → Nat := fun i => ([0, 1, 3, 4, 6, 7, 9, 10] : List Nat).getD i 0
abbrev c10_costOfStep : ByteArray := prog_13_method_33_code
abbrev y10_costOfStep : MethodName := ⟨"ChoraleSearchModel", "costOfStep", "(II)I"⟩
def w10_costOfStep : List Cond := Cond.code y10_costOfStep c10_costOfStep 9 (some .int) :: ri_gT
abbrev r10_costOfStep : Room := { frames := 2, cells := 0, slots := 0, locals := 43 }
def p10_costOfStep : Nat → Nat := fun i => ([0, 1, 4, 5, 6, 7, 10, 11, 12, 13, 16, 17, 18, 21, 22, 23, 24, 26, 27, 29, 31, 32, 35, 36, 39, 40, 41, 42, 44, 45, 46, 47, 50, 51, 52, 53, 55, 56, 57, 58, 61, 63, 65, 68, 70, 73, 74, 77, 78, 80, 81, 83, 84, 87, 89, 90, 93, 94, 97, 98, 99, 101, 102, 103, 104, 107, 108, 109, 110, 111, 113, 114, 117, 119, 121, 124, 125, 128, 129, 130, 133, 134, 135, 136, 139, 142, 143, 146, 147, 148, 149, 150, 151, 154, 155, 156, 157, 158, 159, 161, 162, 165, 166, 167, 168, 169, 170, 171, 172, 175, 176, 177, 178, 179, 180, 181, 182, 184, 186, 189, 191, 194, 196, 199, 201, 204, 205, 208, 209, 211, 212, 215, 216, 217, 218, 219, 220, 223, 224, 225, 226, 227, 228, 229, 230, 233, 235, 236, 238, 241, 243, 246, 247, 250, 252, 255, 257, 259, 262, 263, 266, 267, 268, 271, 272, 273, 274, 275, 277, 280, 281, 284, 285, 288, 290, 291, 292] : List Nat).getD i 0
abbrev c10_narrow : ByteArray := prog_13_method_36_code
abbrev y10_narrow : MethodName := ⟨"ChoraleSearchModel", "narrow", "(II)Z"⟩
def w10_narrow : List Cond := Cond.code y10_narrow c10_narrow 8 (some .boolean) :: ri_gT
abbrev r10_narrow : Room := { frames := 0, cells := 0, slots := 0, locals := 0 }
def p10_narrow : Nat → Nat := fun i => ([0, 1, 2, 5, 6, 7, 9, 11, 14, 15, 16, 17, 20, 21, 22, 23, 26, 27, 28, 31, 33, 34, 37, 38, 41, 42, 43, 44, 45, 48, 50, 51, 54, 56, 57, 60, 61, 64, 65, 68, 69, 70, 73, 76, 77, 80, 81, 82, 83, 85, 87, 88, 91, 93, 94, 97, 98, 100, 103, 104, 105, 107, 109, 112, 113, 114, 115, 118, 119, 120, 121, 124, 125, 128, 130, 131, 134, 135, 138, 140, 141, 144, 145, 148, 149, 151, 153, 156, 158, 161, 162, 165, 166, 168, 169, 170, 171, 174, 175, 177, 178, 179, 182, 184, 187, 189, 191, 194, 197, 198, 201, 203, 204, 205, 208, 211, 212, 213, 216, 217, 220, 221] : List Nat).getD i 0
abbrev c10_takeRows : ByteArray := prog_13_method_38_code
abbrev y10_takeRows : MethodName := ⟨"ChoraleSearchModel", "takeRows", "()V"⟩
def w10_takeRows : List Cond := Cond.code y10_takeRows c10_takeRows 6 none :: ri_gT
abbrev r10_takeRows : Room := { frames := 0, cells := 0, slots := 0, locals := 0 }
def p10_takeRows : Nat → Nat := fun i => ([0, 1, 2, 5, 6, 7, 8, 9, 12, 13, 14, 17, 18, 19, 20, 23, 24, 25, 28, 29, 30, 33, 34, 35, 38, 39, 42, 43, 44, 45, 46, 47, 48, 49, 50, 53, 55, 57, 60, 61, 64, 66, 67, 68, 69, 70, 73, 76, 79, 81, 82, 85, 86, 89, 90, 93, 94, 97, 100, 101, 103, 105, 107, 110, 111, 114, 116, 117, 120, 122, 123, 124, 125, 126, 127, 130, 132, 133, 136, 138, 139, 140, 141, 142, 143, 146, 148, 149, 152, 154, 155, 156, 157, 158, 161, 164, 165, 168, 170, 171, 172, 173, 176, 178, 179, 180, 181, 184, 186, 187, 188, 189, 190, 193, 194, 197, 198, 201, 202, 203, 206, 207, 210, 213, 216, 219, 222, 223, 224, 225, 226, 229, 232, 233, 236, 237, 238, 239, 240, 243, 244, 245, 246, 247, 249, 251, 252, 255, 258, 259, 261, 263, 264, 267, 268, 271, 273, 274, 275, 276, 278, 279, 280, 282, 283, 284, 287, 288, 289, 290, 292, 293, 294, 295, 298, 301, 302, 305, 307, 308, 309, 311, 312, 313, 316, 317, 318, 319, 320, 321, 322, 323, 324, 326, 327, 330, 332, 333, 334, 335, 338, 340, 341, 342, 345, 348, 351, 354] : List Nat).getD i 0
abbrev c10_note : ByteArray := prog_13_method_41_code
abbrev y10_note : MethodName := ⟨"ChoraleSearchModel", "note", "(III)I"⟩
def w10_note : List Cond := Cond.code y10_note c10_note 4 (some .int) :: ri_gT
abbrev r10_note : Room := { frames := 2, cells := 0, slots := 0, locals := 46 }
def p10_note : Nat → Nat := fun i => ([0, 1, 2, 5, 6, 7, 10, 13, 14, 15, 16, 19, 22, 25, 26, 27, 30, 33, 34, 37, 38, 41, 43, 44, 45, 46, 47, 48, 49, 50, 51, 52] : List Nat).getD i 0
abbrev c10_noRow : ByteArray := prog_13_method_40_code
abbrev y10_noRow : MethodName := ⟨"ChoraleSearchModel", "noRow", "(I)Z"⟩
def w10_noRow : List Cond := Cond.code y10_noRow c10_noRow 2 (some .boolean) :: ri_gT
abbrev r10_noRow : Room := { frames := 1, cells := 0, slots := 0, locals := 25 }
def p10_noRow : Nat → Nat := fun i => ([0, 1, 2, 3, 4, 7, 8, 9, 10, 13, 16, 17, 20, 21] : List Nat).getD i 0
abbrev c10_chord : ByteArray := prog_13_method_42_code
abbrev y10_chord : MethodName := ⟨"ChoraleSearchModel", "chord", "(II)I"⟩
def w10_chord : List Cond := Cond.code y10_chord c10_chord 3 (some .int) :: ri_gT
abbrev r10_chord : Room := { frames := 2, cells := 0, slots := 0, locals := 46 }
def p10_chord : Nat → Nat := fun i => ([0, 1, 2, 5, 6, 7, 10, 13, 14, 15, 18, 21, 22, 25, 26, 29, 31, 32, 33, 34, 35, 36] : List Nat).getD i 0
abbrev c10_sum : ByteArray := prog_13_method_43_code
abbrev y10_sum : MethodName := ⟨"ChoraleSearchModel", "sum", "(I)I"⟩
def w10_sum : List Cond := Cond.code y10_sum c10_sum 2 (some .int) :: ri_gT
abbrev r10_sum : Room := { frames := 2, cells := 0, slots := 0, locals := 46 }
def p10_sum : Nat → Nat := fun i => ([0, 1, 2, 5, 6, 7, 10, 13, 14, 17, 18, 21, 22, 23] : List Nat).getD i 0
abbrev c10_least : ByteArray := prog_13_method_44_code
abbrev y10_least : MethodName := ⟨"ChoraleSearchModel", "least", "()I"⟩
def w10_least : List Cond := Cond.code y10_least c10_least 1 (some .int) :: ri_gT
abbrev r10_least : Room := { frames := 0, cells := 0, slots := 0, locals := 0 }
def p10_least : Nat → Nat := fun i => ([0, 1, 2, 5, 6, 9, 12, 13, 16, 17, 20, 23, 24, 27, 28] : List Nat).getD i 0
abbrev c10_blocked : ByteArray := prog_13_method_46_code
abbrev y10_blocked : MethodName := ⟨"ChoraleSearchModel", "blocked", "(I)I"⟩
def w10_blocked : List Cond := Cond.code y10_blocked c10_blocked 4 (some .int) :: ri_gT
abbrev r10_blocked : Room := { frames := 6, cells := 0, slots := 0, locals := 149 }
def p10_blocked : Nat → Nat := fun i => ([0, 1, 2, 5, 6, 7, 8, 11, 14, 17, 18, 19, 20, 23, 26, 28, 29, 30, 33, 34, 35, 38, 40, 41, 42, 43, 46, 47, 50, 51, 54, 55, 58, 59, 60, 61, 62, 65, 66, 67, 70, 71, 74, 75, 76, 77, 78, 79, 82, 83, 84, 87] : List Nat).getD i 0
abbrev c10_firstBarred : ByteArray := prog_13_method_45_code
abbrev y10_firstBarred : MethodName := ⟨"ChoraleSearchModel", "firstBarred", "()I"⟩
def w10_firstBarred : List Cond := Cond.code y10_firstBarred c10_firstBarred 6 (some .int) :: ri_gT
abbrev r10_firstBarred : Room := { frames := 3, cells := 0, slots := 0, locals := 79 }
def p10_firstBarred : Nat → Nat := fun i => ([0, 1, 2, 5, 6, 7, 8, 9, 12, 13, 14, 17, 18, 21, 22, 23, 24, 27, 30, 31, 34, 35, 36, 39, 40, 41, 42, 43, 44, 45, 48, 51, 52, 53, 54, 55, 58, 61, 62, 63, 64, 65, 68, 69, 70, 71, 74, 75, 76, 77, 80, 81, 84, 85, 86, 87, 90, 91, 92, 93, 94, 96, 98, 101, 102, 103, 104, 105, 106, 109, 110, 111, 112, 113, 114, 117, 118, 121, 123, 124, 127, 128, 130, 131, 134, 136, 137, 138, 141, 143, 144, 147, 148, 151, 152, 153, 156, 157, 158, 161, 163, 166, 167, 170, 171, 172, 175, 178, 179, 182, 183, 186, 187, 188, 191, 192, 195, 196, 197, 200, 203, 204, 207, 208, 209, 212, 215, 217] : List Nat).getD i 0
abbrev c10_repair : ByteArray := prog_13_method_47_code
abbrev y10_repair : MethodName := ⟨"ChoraleSearchModel", "repair", "()I"⟩
def w10_repair : List Cond := Cond.code y10_repair c10_repair 5 (some .int) :: ri_gT
abbrev r10_repair : Room := { frames := 6, cells := 0, slots := 0, locals := 149 }
def p10_repair : Nat → Nat := fun i => ([0, 1, 2, 5, 6, 9, 12, 14, 15, 16, 19, 22, 23, 24, 25, 26, 27, 28, 29, 32, 33, 36, 37, 40, 41, 42, 44, 47, 48, 51, 52, 53, 54, 55, 58, 59, 61, 62, 63, 66, 67, 68, 71, 72, 75, 78, 79, 82, 83, 85, 86, 89, 90, 91, 92, 93, 96, 98, 99, 101, 104, 105, 106, 109, 112, 114] : List Nat).getD i 0
abbrev c10_passing : ByteArray := prog_13_method_48_code
abbrev y10_passing : MethodName := ⟨"ChoraleSearchModel", "passing", "(II)I"⟩
def w10_passing : List Cond := Cond.code y10_passing c10_passing 9 (some .int) :: ri_gT
abbrev r10_passing : Room := { frames := 1, cells := 0, slots := 0, locals := 25 }
def p10_passing : Nat → Nat := fun i => ([0, 1, 2, 5, 6, 9, 12, 13, 14, 15, 16, 19, 20, 21, 22, 25, 28, 29, 30, 31, 34, 37, 40, 41, 42, 43, 46, 47, 48, 49, 50, 51, 52, 53, 54, 57, 58, 59, 60, 61, 62, 63, 64, 65, 67, 68, 70, 71, 74, 76, 78, 79, 82, 84, 85, 88, 90, 91, 92, 94, 97, 98, 101, 103, 105, 106, 108, 110, 111, 114, 115, 117, 119, 120, 123, 125, 126, 129, 132, 133, 136, 138, 139, 142, 143, 146, 148, 149, 150, 153, 155, 157, 158, 159, 162, 165, 167] : List Nat).getD i 0
abbrev c10_count : ByteArray := prog_13_method_49_code
abbrev y10_count : MethodName := ⟨"ChoraleSearchModel", "count", "(I)I"⟩
def w10_count : List Cond := Cond.code y10_count c10_count 4 (some .int) :: ri_gT
abbrev r10_count : Room := { frames := 0, cells := 0, slots := 0, locals := 0 }
def p10_count : Nat → Nat := fun i => ([0, 1, 2, 5, 6, 7, 8, 48, 49, 52, 53, 54, 57, 60, 61, 64, 65, 66, 67, 70, 71, 72, 73, 74, 75, 76, 79, 80, 83, 84, 85, 88, 89, 90, 92, 95, 96, 99, 100, 101, 102, 105, 108, 109, 110, 111, 114, 115, 116, 117, 118, 120, 123, 124, 125, 128, 129, 130, 133, 134, 137, 138, 139, 140, 143, 146, 147, 148, 149] : List Nat).getD i 0
abbrev c10_member : ByteArray := prog_13_method_50_code
abbrev y10_member : MethodName := ⟨"ChoraleSearchModel", "member", "(II)I"⟩
def w10_member : List Cond := Cond.code y10_member c10_member 3 (some .int) :: ri_gT
abbrev r10_member : Room := { frames := 1, cells := 0, slots := 0, locals := 25 }
def p10_member : Nat → Nat := fun i => ([0, 1, 2, 5, 6, 7, 8, 11, 14, 17, 18, 19, 20, 23, 26, 29, 30, 31, 32, 33, 34, 37, 40, 42, 45, 46, 47, 48, 51, 52, 55, 56, 58, 59] : List Nat).getD i 0
