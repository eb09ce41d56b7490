section
-- ===== PART A: goes FIRST, ahead of the names: the tables' words, and 'selects' of the private methods out of them =====
/-- a private method of a class that the tables say can be made, by its rows of tables_1 -/
def lw_okq (q : MethodName × Nat) : Prop := (q.1.cls ≠ "java/lang/invoke/MethodHandle" ∧ q.1.cls ≠ "java/lang/invoke/VarHandle") ∧ Cond.instantiable q.1.cls q.2 ∈ tables_1 ∧ Cond.privateMethod q.1 ∈ tables_1 ∧ Cond.instanceMethod q.1 ∈ tables_1
theorem lw_p0 : lw_okq (⟨"ChoraleSearch$Score", "clearFrom", "(I)V"⟩, 9) := ⟨⟨by decide +kernel, by decide +kernel⟩, List.mem_of_getElem? (i := 25) (by decide +kernel), List.mem_of_getElem? (i := 31) (by decide +kernel), List.mem_of_getElem? (i := 32) (by decide +kernel)⟩
theorem lw_p1 : lw_okq (⟨"ChoraleSearch$Harmony", "tune", "(II)V"⟩, 7) := ⟨⟨by decide +kernel, by decide +kernel⟩, List.mem_of_getElem? (i := 81) (by decide +kernel), List.mem_of_getElem? (i := 101) (by decide +kernel), List.mem_of_getElem? (i := 102) (by decide +kernel)⟩
theorem lw_p2 : lw_okq (⟨"ChoraleSearch$Harmony", "tuneMember", "(II)V"⟩, 7) := ⟨⟨by decide +kernel, by decide +kernel⟩, List.mem_of_getElem? (i := 81) (by decide +kernel), List.mem_of_getElem? (i := 108) (by decide +kernel), List.mem_of_getElem? (i := 109) (by decide +kernel)⟩
theorem lw_p3 : lw_okq (⟨"ChoraleSearch", "forgetFound", "()V"⟩, 5) := ⟨⟨by decide +kernel, by decide +kernel⟩, List.mem_of_getElem? (i := 17) (by decide +kernel), List.mem_of_getElem? (i := 347) (by decide +kernel), List.mem_of_getElem? (i := 348) (by decide +kernel)⟩
theorem lw_p4 : lw_okq (⟨"ChoraleSearch$RowSearch", "forget", "()V"⟩, 15) := ⟨⟨by decide +kernel, by decide +kernel⟩, List.mem_of_getElem? (i := 256) (by decide +kernel), List.mem_of_getElem? (i := 351) (by decide +kernel), List.mem_of_getElem? (i := 352) (by decide +kernel)⟩
theorem lw_p5 : lw_okq (⟨"ChoraleSearch$Table", "spoil", "()V"⟩, 4) := ⟨⟨by decide +kernel, by decide +kernel⟩, List.mem_of_getElem? (i := 186) (by decide +kernel), List.mem_of_getElem? (i := 355) (by decide +kernel), List.mem_of_getElem? (i := 356) (by decide +kernel)⟩
theorem lw_p6 : lw_okq (⟨"ChoraleSearch", "isPlace", "(I)Z"⟩, 5) := ⟨⟨by decide +kernel, by decide +kernel⟩, List.mem_of_getElem? (i := 17) (by decide +kernel), List.mem_of_getElem? (i := 371) (by decide +kernel), List.mem_of_getElem? (i := 372) (by decide +kernel)⟩
theorem lw_p7 : lw_okq (⟨"ChoraleSearch", "setPitch", "(III)I"⟩, 5) := ⟨⟨by decide +kernel, by decide +kernel⟩, List.mem_of_getElem? (i := 17) (by decide +kernel), List.mem_of_getElem? (i := 378) (by decide +kernel), List.mem_of_getElem? (i := 379) (by decide +kernel)⟩
theorem lw_p8 : lw_okq (⟨"ChoraleSearch$Table", "prepare", "()V"⟩, 4) := ⟨⟨by decide +kernel, by decide +kernel⟩, List.mem_of_getElem? (i := 186) (by decide +kernel), List.mem_of_getElem? (i := 417) (by decide +kernel), List.mem_of_getElem? (i := 418) (by decide +kernel)⟩
theorem lw_p9 : lw_okq (⟨"ChoraleSearch$StateRules", "fill", "(LChoraleSearch$Layer;I)V"⟩, 5) := ⟨⟨by decide +kernel, by decide +kernel⟩, List.mem_of_getElem? (i := 142) (by decide +kernel), List.mem_of_getElem? (i := 421) (by decide +kernel), List.mem_of_getElem? (i := 422) (by decide +kernel)⟩
theorem lw_p10 : lw_okq (⟨"ChoraleSearch$StateRules", "setLimits", "(I)V"⟩, 5) := ⟨⟨by decide +kernel, by decide +kernel⟩, List.mem_of_getElem? (i := 142) (by decide +kernel), List.mem_of_getElem? (i := 425) (by decide +kernel), List.mem_of_getElem? (i := 426) (by decide +kernel)⟩
theorem lw_p11 : lw_okq (⟨"ChoraleSearch$Score", "lowAt", "(II)I"⟩, 9) := ⟨⟨by decide +kernel, by decide +kernel⟩, List.mem_of_getElem? (i := 25) (by decide +kernel), List.mem_of_getElem? (i := 429) (by decide +kernel), List.mem_of_getElem? (i := 430) (by decide +kernel)⟩
theorem lw_p12 : lw_okq (⟨"ChoraleSearch$Score", "highAt", "(II)I"⟩, 9) := ⟨⟨by decide +kernel, by decide +kernel⟩, List.mem_of_getElem? (i := 25) (by decide +kernel), List.mem_of_getElem? (i := 436) (by decide +kernel), List.mem_of_getElem? (i := 437) (by decide +kernel)⟩
theorem lw_p13 : lw_okq (⟨"ChoraleSearch$Score", "figuredChords", "(I)I"⟩, 9) := ⟨⟨by decide +kernel, by decide +kernel⟩, List.mem_of_getElem? (i := 25) (by decide +kernel), List.mem_of_getElem? (i := 443) (by decide +kernel), List.mem_of_getElem? (i := 444) (by decide +kernel)⟩
theorem lw_p14 : lw_okq (⟨"ChoraleSearch$StateRules", "chordsByRule6", "(I)I"⟩, 5) := ⟨⟨by decide +kernel, by decide +kernel⟩, List.mem_of_getElem? (i := 142) (by decide +kernel), List.mem_of_getElem? (i := 447) (by decide +kernel), List.mem_of_getElem? (i := 448) (by decide +kernel)⟩
theorem lw_p15 : lw_okq (⟨"ChoraleSearch$Score", "isLast", "(I)Z"⟩, 9) := ⟨⟨by decide +kernel, by decide +kernel⟩, List.mem_of_getElem? (i := 25) (by decide +kernel), List.mem_of_getElem? (i := 451) (by decide +kernel), List.mem_of_getElem? (i := 452) (by decide +kernel)⟩
def lw_privs_1 : List (MethodName × Nat) := [(⟨"ChoraleSearch$Score", "clearFrom", "(I)V"⟩, 9), (⟨"ChoraleSearch$Harmony", "tune", "(II)V"⟩, 7), (⟨"ChoraleSearch$Harmony", "tuneMember", "(II)V"⟩, 7), (⟨"ChoraleSearch", "forgetFound", "()V"⟩, 5), (⟨"ChoraleSearch$RowSearch", "forget", "()V"⟩, 15), (⟨"ChoraleSearch$Table", "spoil", "()V"⟩, 4), (⟨"ChoraleSearch", "isPlace", "(I)Z"⟩, 5), (⟨"ChoraleSearch", "setPitch", "(III)I"⟩, 5), (⟨"ChoraleSearch$Table", "prepare", "()V"⟩, 4), (⟨"ChoraleSearch$StateRules", "fill", "(LChoraleSearch$Layer;I)V"⟩, 5), (⟨"ChoraleSearch$StateRules", "setLimits", "(I)V"⟩, 5), (⟨"ChoraleSearch$Score", "lowAt", "(II)I"⟩, 9), (⟨"ChoraleSearch$Score", "highAt", "(II)I"⟩, 9), (⟨"ChoraleSearch$Score", "figuredChords", "(I)I"⟩, 9), (⟨"ChoraleSearch$StateRules", "chordsByRule6", "(I)I"⟩, 5), (⟨"ChoraleSearch$Score", "isLast", "(I)Z"⟩, 9)]
theorem lw_r1 : ∀ q ∈ lw_privs_1, lw_okq q := List.forall_mem_cons.mpr ⟨lw_p0, List.forall_mem_cons.mpr ⟨lw_p1, List.forall_mem_cons.mpr ⟨lw_p2, List.forall_mem_cons.mpr ⟨lw_p3, List.forall_mem_cons.mpr ⟨lw_p4, List.forall_mem_cons.mpr ⟨lw_p5, List.forall_mem_cons.mpr ⟨lw_p6, List.forall_mem_cons.mpr ⟨lw_p7, List.forall_mem_cons.mpr ⟨lw_p8, List.forall_mem_cons.mpr ⟨lw_p9, List.forall_mem_cons.mpr ⟨lw_p10, List.forall_mem_cons.mpr ⟨lw_p11, List.forall_mem_cons.mpr ⟨lw_p12, List.forall_mem_cons.mpr ⟨lw_p13, List.forall_mem_cons.mpr ⟨lw_p14, List.forall_mem_cons.mpr ⟨lw_p15, fun _ h => absurd h List.not_mem_nil⟩⟩⟩⟩⟩⟩⟩⟩⟩⟩⟩⟩⟩⟩⟩⟩
theorem lw_p16 : lw_okq (⟨"ChoraleSearch$Harmony", "chordsWith", "(I)I"⟩, 7) := ⟨⟨by decide +kernel, by decide +kernel⟩, List.mem_of_getElem? (i := 81) (by decide +kernel), List.mem_of_getElem? (i := 455) (by decide +kernel), List.mem_of_getElem? (i := 456) (by decide +kernel)⟩
theorem lw_p17 : lw_okq (⟨"ChoraleSearch$StateRules", "fillBass", "(LChoraleSearch$Layer;IIII)V"⟩, 5) := ⟨⟨by decide +kernel, by decide +kernel⟩, List.mem_of_getElem? (i := 142) (by decide +kernel), List.mem_of_getElem? (i := 466) (by decide +kernel), List.mem_of_getElem? (i := 467) (by decide +kernel)⟩
theorem lw_p18 : lw_okq (⟨"ChoraleSearch$StateRules", "bassChords", "(II)I"⟩, 5) := ⟨⟨by decide +kernel, by decide +kernel⟩, List.mem_of_getElem? (i := 142) (by decide +kernel), List.mem_of_getElem? (i := 470) (by decide +kernel), List.mem_of_getElem? (i := 471) (by decide +kernel)⟩
theorem lw_p19 : lw_okq (⟨"ChoraleSearch$Harmony", "chordsWithMember", "(II)I"⟩, 7) := ⟨⟨by decide +kernel, by decide +kernel⟩, List.mem_of_getElem? (i := 81) (by decide +kernel), List.mem_of_getElem? (i := 474) (by decide +kernel), List.mem_of_getElem? (i := 475) (by decide +kernel)⟩
theorem lw_p20 : lw_okq (⟨"ChoraleSearch$StateRules", "addComplete", "(LChoraleSearch$Layer;II)V"⟩, 5) := ⟨⟨by decide +kernel, by decide +kernel⟩, List.mem_of_getElem? (i := 142) (by decide +kernel), List.mem_of_getElem? (i := 478) (by decide +kernel), List.mem_of_getElem? (i := 479) (by decide +kernel)⟩
theorem lw_p21 : lw_okq (⟨"ChoraleSearch$StateRules", "keepsRules4And5", "(II)Z"⟩, 5) := ⟨⟨by decide +kernel, by decide +kernel⟩, List.mem_of_getElem? (i := 142) (by decide +kernel), List.mem_of_getElem? (i := 485) (by decide +kernel), List.mem_of_getElem? (i := 486) (by decide +kernel)⟩
theorem lw_p22 : lw_okq (⟨"ChoraleSearch$Harmony", "memberClass", "(II)I"⟩, 7) := ⟨⟨by decide +kernel, by decide +kernel⟩, List.mem_of_getElem? (i := 81) (by decide +kernel), List.mem_of_getElem? (i := 489) (by decide +kernel), List.mem_of_getElem? (i := 490) (by decide +kernel)⟩
theorem lw_p23 : lw_okq (⟨"ChoraleSearch$Harmony", "guardsLeading", "(I)Z"⟩, 7) := ⟨⟨by decide +kernel, by decide +kernel⟩, List.mem_of_getElem? (i := 81) (by decide +kernel), List.mem_of_getElem? (i := 496) (by decide +kernel), List.mem_of_getElem? (i := 497) (by decide +kernel)⟩
theorem lw_p24 : lw_okq (⟨"ChoraleSearch$Layer", "add", "(I)V"⟩, 3) := ⟨⟨by decide +kernel, by decide +kernel⟩, List.mem_of_getElem? (i := 193) (by decide +kernel), List.mem_of_getElem? (i := 500) (by decide +kernel), List.mem_of_getElem? (i := 501) (by decide +kernel)⟩
theorem lw_p25 : lw_okq (⟨"ChoraleSearch$Table", "overflows", "()Z"⟩, 4) := ⟨⟨by decide +kernel, by decide +kernel⟩, List.mem_of_getElem? (i := 186) (by decide +kernel), List.mem_of_getElem? (i := 504) (by decide +kernel), List.mem_of_getElem? (i := 505) (by decide +kernel)⟩
theorem lw_p26 : lw_okq (⟨"ChoraleSearch$RowSearch", "run", "(I)V"⟩, 15) := ⟨⟨by decide +kernel, by decide +kernel⟩, List.mem_of_getElem? (i := 256) (by decide +kernel), List.mem_of_getElem? (i := 508) (by decide +kernel), List.mem_of_getElem? (i := 509) (by decide +kernel)⟩
theorem lw_p27 : lw_okq (⟨"ChoraleSearch$RowSearch", "findRests", "(I)V"⟩, 15) := ⟨⟨by decide +kernel, by decide +kernel⟩, List.mem_of_getElem? (i := 256) (by decide +kernel), List.mem_of_getElem? (i := 513) (by decide +kernel), List.mem_of_getElem? (i := 514) (by decide +kernel)⟩
theorem lw_p28 : lw_okq (⟨"ChoraleSearch$Layer", "kept", "()I"⟩, 3) := ⟨⟨by decide +kernel, by decide +kernel⟩, List.mem_of_getElem? (i := 193) (by decide +kernel), List.mem_of_getElem? (i := 518) (by decide +kernel), List.mem_of_getElem? (i := 519) (by decide +kernel)⟩
theorem lw_p29 : lw_okq (⟨"ChoraleSearch$Costs", "ofState", "(I)I"⟩, 2) := ⟨⟨by decide +kernel, by decide +kernel⟩, List.mem_of_getElem? (i := 258) (by decide +kernel), List.mem_of_getElem? (i := 523) (by decide +kernel), List.mem_of_getElem? (i := 524) (by decide +kernel)⟩
theorem lw_p30 : lw_okq (⟨"ChoraleSearch$Costs", "inversionUnits", "(I)I"⟩, 2) := ⟨⟨by decide +kernel, by decide +kernel⟩, List.mem_of_getElem? (i := 258) (by decide +kernel), List.mem_of_getElem? (i := 527) (by decide +kernel), List.mem_of_getElem? (i := 528) (by decide +kernel)⟩
theorem lw_p31 : lw_okq (⟨"ChoraleSearch$Harmony", "timesMember", "(II)I"⟩, 7) := ⟨⟨by decide +kernel, by decide +kernel⟩, List.mem_of_getElem? (i := 81) (by decide +kernel), List.mem_of_getElem? (i := 543) (by decide +kernel), List.mem_of_getElem? (i := 544) (by decide +kernel)⟩
def lw_privs_2 : List (MethodName × Nat) := [(⟨"ChoraleSearch$Harmony", "chordsWith", "(I)I"⟩, 7), (⟨"ChoraleSearch$StateRules", "fillBass", "(LChoraleSearch$Layer;IIII)V"⟩, 5), (⟨"ChoraleSearch$StateRules", "bassChords", "(II)I"⟩, 5), (⟨"ChoraleSearch$Harmony", "chordsWithMember", "(II)I"⟩, 7), (⟨"ChoraleSearch$StateRules", "addComplete", "(LChoraleSearch$Layer;II)V"⟩, 5), (⟨"ChoraleSearch$StateRules", "keepsRules4And5", "(II)Z"⟩, 5), (⟨"ChoraleSearch$Harmony", "memberClass", "(II)I"⟩, 7), (⟨"ChoraleSearch$Harmony", "guardsLeading", "(I)Z"⟩, 7), (⟨"ChoraleSearch$Layer", "add", "(I)V"⟩, 3), (⟨"ChoraleSearch$Table", "overflows", "()Z"⟩, 4), (⟨"ChoraleSearch$RowSearch", "run", "(I)V"⟩, 15), (⟨"ChoraleSearch$RowSearch", "findRests", "(I)V"⟩, 15), (⟨"ChoraleSearch$Layer", "kept", "()I"⟩, 3), (⟨"ChoraleSearch$Costs", "ofState", "(I)I"⟩, 2), (⟨"ChoraleSearch$Costs", "inversionUnits", "(I)I"⟩, 2), (⟨"ChoraleSearch$Harmony", "timesMember", "(II)I"⟩, 7)]
theorem lw_r2 : ∀ q ∈ lw_privs_2, lw_okq q := List.forall_mem_cons.mpr ⟨lw_p16, List.forall_mem_cons.mpr ⟨lw_p17, List.forall_mem_cons.mpr ⟨lw_p18, List.forall_mem_cons.mpr ⟨lw_p19, List.forall_mem_cons.mpr ⟨lw_p20, List.forall_mem_cons.mpr ⟨lw_p21, List.forall_mem_cons.mpr ⟨lw_p22, List.forall_mem_cons.mpr ⟨lw_p23, List.forall_mem_cons.mpr ⟨lw_p24, List.forall_mem_cons.mpr ⟨lw_p25, List.forall_mem_cons.mpr ⟨lw_p26, List.forall_mem_cons.mpr ⟨lw_p27, List.forall_mem_cons.mpr ⟨lw_p28, List.forall_mem_cons.mpr ⟨lw_p29, List.forall_mem_cons.mpr ⟨lw_p30, List.forall_mem_cons.mpr ⟨lw_p31, fun _ h => absurd h List.not_mem_nil⟩⟩⟩⟩⟩⟩⟩⟩⟩⟩⟩⟩⟩⟩⟩⟩
theorem lw_p32 : lw_okq (⟨"ChoraleSearch$RowSearch", "linkOnward", "(III)V"⟩, 15) := ⟨⟨by decide +kernel, by decide +kernel⟩, List.mem_of_getElem? (i := 256) (by decide +kernel), List.mem_of_getElem? (i := 554) (by decide +kernel), List.mem_of_getElem? (i := 555) (by decide +kernel)⟩
theorem lw_p33 : lw_okq (⟨"ChoraleSearch$StepRules", "allow", "(II)Z"⟩, 5) := ⟨⟨by decide +kernel, by decide +kernel⟩, List.mem_of_getElem? (i := 164) (by decide +kernel), List.mem_of_getElem? (i := 558) (by decide +kernel), List.mem_of_getElem? (i := 559) (by decide +kernel)⟩
theorem lw_p34 : lw_okq (⟨"ChoraleSearch$StepRules", "lookAt", "(II)V"⟩, 5) := ⟨⟨by decide +kernel, by decide +kernel⟩, List.mem_of_getElem? (i := 164) (by decide +kernel), List.mem_of_getElem? (i := 562) (by decide +kernel), List.mem_of_getElem? (i := 563) (by decide +kernel)⟩
theorem lw_p35 : lw_okq (⟨"ChoraleSearch$StepRules", "breaks7", "()Z"⟩, 5) := ⟨⟨by decide +kernel, by decide +kernel⟩, List.mem_of_getElem? (i := 164) (by decide +kernel), List.mem_of_getElem? (i := 570) (by decide +kernel), List.mem_of_getElem? (i := 571) (by decide +kernel)⟩
theorem lw_p36 : lw_okq (⟨"ChoraleSearch$Harmony", "unitsBetween", "(II)I"⟩, 7) := ⟨⟨by decide +kernel, by decide +kernel⟩, List.mem_of_getElem? (i := 81) (by decide +kernel), List.mem_of_getElem? (i := 574) (by decide +kernel), List.mem_of_getElem? (i := 575) (by decide +kernel)⟩
theorem lw_p37 : lw_okq (⟨"ChoraleSearch$StepRules", "breaks10", "()Z"⟩, 5) := ⟨⟨by decide +kernel, by decide +kernel⟩, List.mem_of_getElem? (i := 164) (by decide +kernel), List.mem_of_getElem? (i := 578) (by decide +kernel), List.mem_of_getElem? (i := 579) (by decide +kernel)⟩
theorem lw_p38 : lw_okq (⟨"ChoraleSearch$StepRules", "breaks9", "()Z"⟩, 5) := ⟨⟨by decide +kernel, by decide +kernel⟩, List.mem_of_getElem? (i := 164) (by decide +kernel), List.mem_of_getElem? (i := 582) (by decide +kernel), List.mem_of_getElem? (i := 583) (by decide +kernel)⟩
theorem lw_p39 : lw_okq (⟨"ChoraleSearch$StepRules", "breaks8", "()Z"⟩, 5) := ⟨⟨by decide +kernel, by decide +kernel⟩, List.mem_of_getElem? (i := 164) (by decide +kernel), List.mem_of_getElem? (i := 589) (by decide +kernel), List.mem_of_getElem? (i := 590) (by decide +kernel)⟩
theorem lw_p40 : lw_okq (⟨"ChoraleSearch$StepRules", "breaks11", "()Z"⟩, 5) := ⟨⟨by decide +kernel, by decide +kernel⟩, List.mem_of_getElem? (i := 164) (by decide +kernel), List.mem_of_getElem? (i := 593) (by decide +kernel), List.mem_of_getElem? (i := 594) (by decide +kernel)⟩
theorem lw_p41 : lw_okq (⟨"ChoraleSearch$StepRules", "leadsAstray", "(I)Z"⟩, 5) := ⟨⟨by decide +kernel, by decide +kernel⟩, List.mem_of_getElem? (i := 164) (by decide +kernel), List.mem_of_getElem? (i := 597) (by decide +kernel), List.mem_of_getElem? (i := 598) (by decide +kernel)⟩
theorem lw_p42 : lw_okq (⟨"ChoraleSearch$StepRules", "breaks12", "()Z"⟩, 5) := ⟨⟨by decide +kernel, by decide +kernel⟩, List.mem_of_getElem? (i := 164) (by decide +kernel), List.mem_of_getElem? (i := 601) (by decide +kernel), List.mem_of_getElem? (i := 602) (by decide +kernel)⟩
theorem lw_p43 : lw_okq (⟨"ChoraleSearch$Costs", "ofStep", "(II)I"⟩, 2) := ⟨⟨by decide +kernel, by decide +kernel⟩, List.mem_of_getElem? (i := 258) (by decide +kernel), List.mem_of_getElem? (i := 606) (by decide +kernel), List.mem_of_getElem? (i := 607) (by decide +kernel)⟩
theorem lw_p44 : lw_okq (⟨"ChoraleSearch$RowSearch", "insertRests", "(IIII)V"⟩, 15) := ⟨⟨by decide +kernel, by decide +kernel⟩, List.mem_of_getElem? (i := 256) (by decide +kernel), List.mem_of_getElem? (i := 619) (by decide +kernel), List.mem_of_getElem? (i := 620) (by decide +kernel)⟩
theorem lw_p45 : lw_okq (⟨"ChoraleSearch$RowSearch", "narrow", "(II)V"⟩, 15) := ⟨⟨by decide +kernel, by decide +kernel⟩, List.mem_of_getElem? (i := 256) (by decide +kernel), List.mem_of_getElem? (i := 623) (by decide +kernel), List.mem_of_getElem? (i := 624) (by decide +kernel)⟩
theorem lw_p46 : lw_okq (⟨"ChoraleSearch$RowSearch", "sortIn", "(II)V"⟩, 15) := ⟨⟨by decide +kernel, by decide +kernel⟩, List.mem_of_getElem? (i := 256) (by decide +kernel), List.mem_of_getElem? (i := 627) (by decide +kernel), List.mem_of_getElem? (i := 628) (by decide +kernel)⟩
theorem lw_p47 : lw_okq (⟨"ChoraleSearch$RowSearch", "dropWorst", "([III)V"⟩, 15) := ⟨⟨by decide +kernel, by decide +kernel⟩, List.mem_of_getElem? (i := 256) (by decide +kernel), List.mem_of_getElem? (i := 631) (by decide +kernel), List.mem_of_getElem? (i := 632) (by decide +kernel)⟩
def lw_privs_3 : List (MethodName × Nat) := [(⟨"ChoraleSearch$RowSearch", "linkOnward", "(III)V"⟩, 15), (⟨"ChoraleSearch$StepRules", "allow", "(II)Z"⟩, 5), (⟨"ChoraleSearch$StepRules", "lookAt", "(II)V"⟩, 5), (⟨"ChoraleSearch$StepRules", "breaks7", "()Z"⟩, 5), (⟨"ChoraleSearch$Harmony", "unitsBetween", "(II)I"⟩, 7), (⟨"ChoraleSearch$StepRules", "breaks10", "()Z"⟩, 5), (⟨"ChoraleSearch$StepRules", "breaks9", "()Z"⟩, 5), (⟨"ChoraleSearch$StepRules", "breaks8", "()Z"⟩, 5), (⟨"ChoraleSearch$StepRules", "breaks11", "()Z"⟩, 5), (⟨"ChoraleSearch$StepRules", "leadsAstray", "(I)Z"⟩, 5), (⟨"ChoraleSearch$StepRules", "breaks12", "()Z"⟩, 5), (⟨"ChoraleSearch$Costs", "ofStep", "(II)I"⟩, 2), (⟨"ChoraleSearch$RowSearch", "insertRests", "(IIII)V"⟩, 15), (⟨"ChoraleSearch$RowSearch", "narrow", "(II)V"⟩, 15), (⟨"ChoraleSearch$RowSearch", "sortIn", "(II)V"⟩, 15), (⟨"ChoraleSearch$RowSearch", "dropWorst", "([III)V"⟩, 15)]
theorem lw_r3 : ∀ q ∈ lw_privs_3, lw_okq q := List.forall_mem_cons.mpr ⟨lw_p32, List.forall_mem_cons.mpr ⟨lw_p33, List.forall_mem_cons.mpr ⟨lw_p34, List.forall_mem_cons.mpr ⟨lw_p35, List.forall_mem_cons.mpr ⟨lw_p36, List.forall_mem_cons.mpr ⟨lw_p37, List.forall_mem_cons.mpr ⟨lw_p38, List.forall_mem_cons.mpr ⟨lw_p39, List.forall_mem_cons.mpr ⟨lw_p40, List.forall_mem_cons.mpr ⟨lw_p41, List.forall_mem_cons.mpr ⟨lw_p42, List.forall_mem_cons.mpr ⟨lw_p43, List.forall_mem_cons.mpr ⟨lw_p44, List.forall_mem_cons.mpr ⟨lw_p45, List.forall_mem_cons.mpr ⟨lw_p46, List.forall_mem_cons.mpr ⟨lw_p47, fun _ h => absurd h List.not_mem_nil⟩⟩⟩⟩⟩⟩⟩⟩⟩⟩⟩⟩⟩⟩⟩⟩
theorem lw_p48 : lw_okq (⟨"ChoraleSearch$RowSearch", "listAlive", "(I)V"⟩, 15) := ⟨⟨by decide +kernel, by decide +kernel⟩, List.mem_of_getElem? (i := 256) (by decide +kernel), List.mem_of_getElem? (i := 635) (by decide +kernel), List.mem_of_getElem? (i := 636) (by decide +kernel)⟩
theorem lw_p49 : lw_okq (⟨"ChoraleSearch$RowSearch", "gatherRows", "()V"⟩, 15) := ⟨⟨by decide +kernel, by decide +kernel⟩, List.mem_of_getElem? (i := 256) (by decide +kernel), List.mem_of_getElem? (i := 639) (by decide +kernel), List.mem_of_getElem? (i := 640) (by decide +kernel)⟩
theorem lw_p50 : lw_okq (⟨"ChoraleSearch$RowSearch", "traceRows", "()V"⟩, 15) := ⟨⟨by decide +kernel, by decide +kernel⟩, List.mem_of_getElem? (i := 256) (by decide +kernel), List.mem_of_getElem? (i := 643) (by decide +kernel), List.mem_of_getElem? (i := 644) (by decide +kernel)⟩
theorem lw_p51 : lw_okq (⟨"ChoraleSearch", "isRow", "(I)Z"⟩, 5) := ⟨⟨by decide +kernel, by decide +kernel⟩, List.mem_of_getElem? (i := 17) (by decide +kernel), List.mem_of_getElem? (i := 651) (by decide +kernel), List.mem_of_getElem? (i := 652) (by decide +kernel)⟩
theorem lw_p52 : lw_okq (⟨"ChoraleSearch$RowSearch", "codeAt", "(II)I"⟩, 15) := ⟨⟨by decide +kernel, by decide +kernel⟩, List.mem_of_getElem? (i := 256) (by decide +kernel), List.mem_of_getElem? (i := 655) (by decide +kernel), List.mem_of_getElem? (i := 656) (by decide +kernel)⟩
theorem lw_p53 : lw_okq (⟨"ChoraleSearch$Reach", "firstUnreached", "()I"⟩, 5) := ⟨⟨by decide +kernel, by decide +kernel⟩, List.mem_of_getElem? (i := 232) (by decide +kernel), List.mem_of_getElem? (i := 681) (by decide +kernel), List.mem_of_getElem? (i := 682) (by decide +kernel)⟩
theorem lw_p54 : lw_okq (⟨"ChoraleSearch$Reach", "markReached", "(I)Z"⟩, 5) := ⟨⟨by decide +kernel, by decide +kernel⟩, List.mem_of_getElem? (i := 232) (by decide +kernel), List.mem_of_getElem? (i := 685) (by decide +kernel), List.mem_of_getElem? (i := 686) (by decide +kernel)⟩
theorem lw_p55 : lw_okq (⟨"ChoraleSearch$Reach", "isEntered", "(II)Z"⟩, 5) := ⟨⟨by decide +kernel, by decide +kernel⟩, List.mem_of_getElem? (i := 232) (by decide +kernel), List.mem_of_getElem? (i := 690) (by decide +kernel), List.mem_of_getElem? (i := 691) (by decide +kernel)⟩
theorem lw_p56 : lw_okq (⟨"ChoraleSearch$Layer", "isMarked", "(II)Z"⟩, 3) := ⟨⟨by decide +kernel, by decide +kernel⟩, List.mem_of_getElem? (i := 193) (by decide +kernel), List.mem_of_getElem? (i := 694) (by decide +kernel), List.mem_of_getElem? (i := 695) (by decide +kernel)⟩
theorem lw_p57 : lw_okq (⟨"ChoraleSearch$Reach", "barringRules", "(I)I"⟩, 5) := ⟨⟨by decide +kernel, by decide +kernel⟩, List.mem_of_getElem? (i := 232) (by decide +kernel), List.mem_of_getElem? (i := 699) (by decide +kernel), List.mem_of_getElem? (i := 700) (by decide +kernel)⟩
theorem lw_p58 : lw_okq (⟨"ChoraleSearch$StateRules", "barring", "(I)I"⟩, 5) := ⟨⟨by decide +kernel, by decide +kernel⟩, List.mem_of_getElem? (i := 142) (by decide +kernel), List.mem_of_getElem? (i := 703) (by decide +kernel), List.mem_of_getElem? (i := 704) (by decide +kernel)⟩
theorem lw_p59 : lw_okq (⟨"ChoraleSearch$StateRules", "surveyVoices", "(II)Z"⟩, 5) := ⟨⟨by decide +kernel, by decide +kernel⟩, List.mem_of_getElem? (i := 142) (by decide +kernel), List.mem_of_getElem? (i := 707) (by decide +kernel), List.mem_of_getElem? (i := 708) (by decide +kernel)⟩
theorem lw_p60 : lw_okq (⟨"ChoraleSearch$StateRules", "surveyVoice", "(III)V"⟩, 5) := ⟨⟨by decide +kernel, by decide +kernel⟩, List.mem_of_getElem? (i := 142) (by decide +kernel), List.mem_of_getElem? (i := 711) (by decide +kernel), List.mem_of_getElem? (i := 712) (by decide +kernel)⟩
theorem lw_p61 : lw_okq (⟨"ChoraleSearch$StateRules", "memberAt", "(II)I"⟩, 5) := ⟨⟨by decide +kernel, by decide +kernel⟩, List.mem_of_getElem? (i := 142) (by decide +kernel), List.mem_of_getElem? (i := 715) (by decide +kernel), List.mem_of_getElem? (i := 716) (by decide +kernel)⟩
theorem lw_p62 : lw_okq (⟨"ChoraleSearch$StateRules", "maySound", "(III)Z"⟩, 5) := ⟨⟨by decide +kernel, by decide +kernel⟩, List.mem_of_getElem? (i := 142) (by decide +kernel), List.mem_of_getElem? (i := 719) (by decide +kernel), List.mem_of_getElem? (i := 720) (by decide +kernel)⟩
theorem lw_p63 : lw_okq (⟨"ChoraleSearch$StateRules", "someBreak3", "()Z"⟩, 5) := ⟨⟨by decide +kernel, by decide +kernel⟩, List.mem_of_getElem? (i := 142) (by decide +kernel), List.mem_of_getElem? (i := 723) (by decide +kernel), List.mem_of_getElem? (i := 724) (by decide +kernel)⟩
def lw_privs_4 : List (MethodName × Nat) := [(⟨"ChoraleSearch$RowSearch", "listAlive", "(I)V"⟩, 15), (⟨"ChoraleSearch$RowSearch", "gatherRows", "()V"⟩, 15), (⟨"ChoraleSearch$RowSearch", "traceRows", "()V"⟩, 15), (⟨"ChoraleSearch", "isRow", "(I)Z"⟩, 5), (⟨"ChoraleSearch$RowSearch", "codeAt", "(II)I"⟩, 15), (⟨"ChoraleSearch$Reach", "firstUnreached", "()I"⟩, 5), (⟨"ChoraleSearch$Reach", "markReached", "(I)Z"⟩, 5), (⟨"ChoraleSearch$Reach", "isEntered", "(II)Z"⟩, 5), (⟨"ChoraleSearch$Layer", "isMarked", "(II)Z"⟩, 3), (⟨"ChoraleSearch$Reach", "barringRules", "(I)I"⟩, 5), (⟨"ChoraleSearch$StateRules", "barring", "(I)I"⟩, 5), (⟨"ChoraleSearch$StateRules", "surveyVoices", "(II)Z"⟩, 5), (⟨"ChoraleSearch$StateRules", "surveyVoice", "(III)V"⟩, 5), (⟨"ChoraleSearch$StateRules", "memberAt", "(II)I"⟩, 5), (⟨"ChoraleSearch$StateRules", "maySound", "(III)Z"⟩, 5), (⟨"ChoraleSearch$StateRules", "someBreak3", "()Z"⟩, 5)]
theorem lw_r4 : ∀ q ∈ lw_privs_4, lw_okq q := List.forall_mem_cons.mpr ⟨lw_p48, List.forall_mem_cons.mpr ⟨lw_p49, List.forall_mem_cons.mpr ⟨lw_p50, List.forall_mem_cons.mpr ⟨lw_p51, List.forall_mem_cons.mpr ⟨lw_p52, List.forall_mem_cons.mpr ⟨lw_p53, List.forall_mem_cons.mpr ⟨lw_p54, List.forall_mem_cons.mpr ⟨lw_p55, List.forall_mem_cons.mpr ⟨lw_p56, List.forall_mem_cons.mpr ⟨lw_p57, List.forall_mem_cons.mpr ⟨lw_p58, List.forall_mem_cons.mpr ⟨lw_p59, List.forall_mem_cons.mpr ⟨lw_p60, List.forall_mem_cons.mpr ⟨lw_p61, List.forall_mem_cons.mpr ⟨lw_p62, List.forall_mem_cons.mpr ⟨lw_p63, fun _ h => absurd h List.not_mem_nil⟩⟩⟩⟩⟩⟩⟩⟩⟩⟩⟩⟩⟩⟩⟩⟩
theorem lw_p64 : lw_okq (⟨"ChoraleSearch$StateRules", "someBreak4", "(I)Z"⟩, 5) := ⟨⟨by decide +kernel, by decide +kernel⟩, List.mem_of_getElem? (i := 142) (by decide +kernel), List.mem_of_getElem? (i := 727) (by decide +kernel), List.mem_of_getElem? (i := 728) (by decide +kernel)⟩
theorem lw_p65 : lw_okq (⟨"ChoraleSearch$StateRules", "canMiss", "(I)Z"⟩, 5) := ⟨⟨by decide +kernel, by decide +kernel⟩, List.mem_of_getElem? (i := 142) (by decide +kernel), List.mem_of_getElem? (i := 731) (by decide +kernel), List.mem_of_getElem? (i := 732) (by decide +kernel)⟩
theorem lw_p66 : lw_okq (⟨"ChoraleSearch$StateRules", "someBreak5", "(I)Z"⟩, 5) := ⟨⟨by decide +kernel, by decide +kernel⟩, List.mem_of_getElem? (i := 142) (by decide +kernel), List.mem_of_getElem? (i := 735) (by decide +kernel), List.mem_of_getElem? (i := 736) (by decide +kernel)⟩
theorem lw_p67 : lw_okq (⟨"ChoraleSearch$StateRules", "canDouble", "(I)Z"⟩, 5) := ⟨⟨by decide +kernel, by decide +kernel⟩, List.mem_of_getElem? (i := 142) (by decide +kernel), List.mem_of_getElem? (i := 739) (by decide +kernel), List.mem_of_getElem? (i := 740) (by decide +kernel)⟩
theorem lw_p68 : lw_okq (⟨"ChoraleSearch$StateRules", "someBreak6", "(II)Z"⟩, 5) := ⟨⟨by decide +kernel, by decide +kernel⟩, List.mem_of_getElem? (i := 142) (by decide +kernel), List.mem_of_getElem? (i := 743) (by decide +kernel), List.mem_of_getElem? (i := 744) (by decide +kernel)⟩
theorem lw_p69 : lw_okq (⟨"ChoraleSearch$Reach", "barringSteps", "(ILChoraleSearch$Layer;)I"⟩, 5) := ⟨⟨by decide +kernel, by decide +kernel⟩, List.mem_of_getElem? (i := 232) (by decide +kernel), List.mem_of_getElem? (i := 747) (by decide +kernel), List.mem_of_getElem? (i := 748) (by decide +kernel)⟩
theorem lw_p70 : lw_okq (⟨"ChoraleSearch$StepRules", "barring", "(II)I"⟩, 5) := ⟨⟨by decide +kernel, by decide +kernel⟩, List.mem_of_getElem? (i := 164) (by decide +kernel), List.mem_of_getElem? (i := 751) (by decide +kernel), List.mem_of_getElem? (i := 752) (by decide +kernel)⟩
theorem lw_p71 : lw_okq (⟨"ChoraleSearch$Reach", "noteToGiveWay", "()I"⟩, 5) := ⟨⟨by decide +kernel, by decide +kernel⟩, List.mem_of_getElem? (i := 232) (by decide +kernel), List.mem_of_getElem? (i := 759) (by decide +kernel), List.mem_of_getElem? (i := 760) (by decide +kernel)⟩
theorem lw_p72 : lw_okq (⟨"ChoraleSearch$Reach", "markGoingOn", "()V"⟩, 5) := ⟨⟨by decide +kernel, by decide +kernel⟩, List.mem_of_getElem? (i := 232) (by decide +kernel), List.mem_of_getElem? (i := 763) (by decide +kernel), List.mem_of_getElem? (i := 764) (by decide +kernel)⟩
theorem lw_p73 : lw_okq (⟨"ChoraleSearch$Reach", "goesOn", "(II)Z"⟩, 5) := ⟨⟨by decide +kernel, by decide +kernel⟩, List.mem_of_getElem? (i := 232) (by decide +kernel), List.mem_of_getElem? (i := 767) (by decide +kernel), List.mem_of_getElem? (i := 768) (by decide +kernel)⟩
theorem lw_p74 : lw_okq (⟨"ChoraleSearch$Reach", "trialJoins", "(I)Z"⟩, 5) := ⟨⟨by decide +kernel, by decide +kernel⟩, List.mem_of_getElem? (i := 232) (by decide +kernel), List.mem_of_getElem? (i := 773) (by decide +kernel), List.mem_of_getElem? (i := 774) (by decide +kernel)⟩
theorem lw_p75 : lw_okq (⟨"ChoraleSearch$Harmony", "inScale", "(I)Z"⟩, 7) := ⟨⟨by decide +kernel, by decide +kernel⟩, List.mem_of_getElem? (i := 81) (by decide +kernel), List.mem_of_getElem? (i := 783) (by decide +kernel), List.mem_of_getElem? (i := 784) (by decide +kernel)⟩
theorem lw_p76 : lw_okq (⟨"ChoraleSearch$Score", "givenNotes", "()I"⟩, 9) := ⟨⟨by decide +kernel, by decide +kernel⟩, List.mem_of_getElem? (i := 25) (by decide +kernel), List.mem_of_getElem? (i := 794) (by decide +kernel), List.mem_of_getElem? (i := 795) (by decide +kernel)⟩
theorem lw_p77 : lw_okq (⟨"ChoraleSearchModel", "noPlace", "(I)Z"⟩, 36) := ⟨⟨by decide +kernel, by decide +kernel⟩, List.mem_of_getElem? (i := 809) (by decide +kernel), List.mem_of_getElem? (i := 942) (by decide +kernel), List.mem_of_getElem? (i := 943) (by decide +kernel)⟩
theorem lw_p78 : lw_okq (⟨"ChoraleSearchModel", "findStates", "(IZZ)I"⟩, 36) := ⟨⟨by decide +kernel, by decide +kernel⟩, List.mem_of_getElem? (i := 809) (by decide +kernel), List.mem_of_getElem? (i := 984) (by decide +kernel), List.mem_of_getElem? (i := 985) (by decide +kernel)⟩
theorem lw_p79 : lw_okq (⟨"ChoraleSearchModel", "mayHave", "(IIII)Z"⟩, 36) := ⟨⟨by decide +kernel, by decide +kernel⟩, List.mem_of_getElem? (i := 809) (by decide +kernel), List.mem_of_getElem? (i := 994) (by decide +kernel), List.mem_of_getElem? (i := 995) (by decide +kernel)⟩
def lw_privs_5 : List (MethodName × Nat) := [(⟨"ChoraleSearch$StateRules", "someBreak4", "(I)Z"⟩, 5), (⟨"ChoraleSearch$StateRules", "canMiss", "(I)Z"⟩, 5), (⟨"ChoraleSearch$StateRules", "someBreak5", "(I)Z"⟩, 5), (⟨"ChoraleSearch$StateRules", "canDouble", "(I)Z"⟩, 5), (⟨"ChoraleSearch$StateRules", "someBreak6", "(II)Z"⟩, 5), (⟨"ChoraleSearch$Reach", "barringSteps", "(ILChoraleSearch$Layer;)I"⟩, 5), (⟨"ChoraleSearch$StepRules", "barring", "(II)I"⟩, 5), (⟨"ChoraleSearch$Reach", "noteToGiveWay", "()I"⟩, 5), (⟨"ChoraleSearch$Reach", "markGoingOn", "()V"⟩, 5), (⟨"ChoraleSearch$Reach", "goesOn", "(II)Z"⟩, 5), (⟨"ChoraleSearch$Reach", "trialJoins", "(I)Z"⟩, 5), (⟨"ChoraleSearch$Harmony", "inScale", "(I)Z"⟩, 7), (⟨"ChoraleSearch$Score", "givenNotes", "()I"⟩, 9), (⟨"ChoraleSearchModel", "noPlace", "(I)Z"⟩, 36), (⟨"ChoraleSearchModel", "findStates", "(IZZ)I"⟩, 36), (⟨"ChoraleSearchModel", "mayHave", "(IIII)Z"⟩, 36)]
theorem lw_r5 : ∀ q ∈ lw_privs_5, lw_okq q := List.forall_mem_cons.mpr ⟨lw_p64, List.forall_mem_cons.mpr ⟨lw_p65, List.forall_mem_cons.mpr ⟨lw_p66, List.forall_mem_cons.mpr ⟨lw_p67, List.forall_mem_cons.mpr ⟨lw_p68, List.forall_mem_cons.mpr ⟨lw_p69, List.forall_mem_cons.mpr ⟨lw_p70, List.forall_mem_cons.mpr ⟨lw_p71, List.forall_mem_cons.mpr ⟨lw_p72, List.forall_mem_cons.mpr ⟨lw_p73, List.forall_mem_cons.mpr ⟨lw_p74, List.forall_mem_cons.mpr ⟨lw_p75, List.forall_mem_cons.mpr ⟨lw_p76, List.forall_mem_cons.mpr ⟨lw_p77, List.forall_mem_cons.mpr ⟨lw_p78, List.forall_mem_cons.mpr ⟨lw_p79, fun _ h => absurd h List.not_mem_nil⟩⟩⟩⟩⟩⟩⟩⟩⟩⟩⟩⟩⟩⟩⟩⟩
theorem lw_p80 : lw_okq (⟨"ChoraleSearchModel", "memberOf", "(II)I"⟩, 36) := ⟨⟨by decide +kernel, by decide +kernel⟩, List.mem_of_getElem? (i := 809) (by decide +kernel), List.mem_of_getElem? (i := 998) (by decide +kernel), List.mem_of_getElem? (i := 999) (by decide +kernel)⟩
theorem lw_p81 : lw_okq (⟨"ChoraleSearchModel", "degreeOf", "(I)I"⟩, 36) := ⟨⟨by decide +kernel, by decide +kernel⟩, List.mem_of_getElem? (i := 809) (by decide +kernel), List.mem_of_getElem? (i := 1002) (by decide +kernel), List.mem_of_getElem? (i := 1003) (by decide +kernel)⟩
theorem lw_p82 : lw_okq (⟨"ChoraleSearchModel", "degree", "(II)I"⟩, 36) := ⟨⟨by decide +kernel, by decide +kernel⟩, List.mem_of_getElem? (i := 809) (by decide +kernel), List.mem_of_getElem? (i := 1006) (by decide +kernel), List.mem_of_getElem? (i := 1007) (by decide +kernel)⟩
theorem lw_p83 : lw_okq (⟨"ChoraleSearchModel", "barsState", "(II)I"⟩, 36) := ⟨⟨by decide +kernel, by decide +kernel⟩, List.mem_of_getElem? (i := 809) (by decide +kernel), List.mem_of_getElem? (i := 1010) (by decide +kernel), List.mem_of_getElem? (i := 1011) (by decide +kernel)⟩
theorem lw_p84 : lw_okq (⟨"ChoraleSearchModel", "putState", "(III)V"⟩, 36) := ⟨⟨by decide +kernel, by decide +kernel⟩, List.mem_of_getElem? (i := 809) (by decide +kernel), List.mem_of_getElem? (i := 1014) (by decide +kernel), List.mem_of_getElem? (i := 1015) (by decide +kernel)⟩
theorem lw_p85 : lw_okq (⟨"ChoraleSearchModel", "orderTo", "(II)I"⟩, 36) := ⟨⟨by decide +kernel, by decide +kernel⟩, List.mem_of_getElem? (i := 809) (by decide +kernel), List.mem_of_getElem? (i := 1018) (by decide +kernel), List.mem_of_getElem? (i := 1019) (by decide +kernel)⟩
theorem lw_p86 : lw_okq (⟨"ChoraleSearchModel", "costOfState", "(I)I"⟩, 36) := ⟨⟨by decide +kernel, by decide +kernel⟩, List.mem_of_getElem? (i := 809) (by decide +kernel), List.mem_of_getElem? (i := 1022) (by decide +kernel), List.mem_of_getElem? (i := 1023) (by decide +kernel)⟩
theorem lw_p87 : lw_okq (⟨"ChoraleSearchModel", "findAll", "()Z"⟩, 36) := ⟨⟨by decide +kernel, by decide +kernel⟩, List.mem_of_getElem? (i := 809) (by decide +kernel), List.mem_of_getElem? (i := 1031) (by decide +kernel), List.mem_of_getElem? (i := 1032) (by decide +kernel)⟩
theorem lw_p88 : lw_okq (⟨"ChoraleSearchModel", "goBack", "(I)Z"⟩, 36) := ⟨⟨by decide +kernel, by decide +kernel⟩, List.mem_of_getElem? (i := 809) (by decide +kernel), List.mem_of_getElem? (i := 1035) (by decide +kernel), List.mem_of_getElem? (i := 1036) (by decide +kernel)⟩
theorem lw_p89 : lw_okq (⟨"ChoraleSearchModel", "addWay", "(IIII)V"⟩, 36) := ⟨⟨by decide +kernel, by decide +kernel⟩, List.mem_of_getElem? (i := 809) (by decide +kernel), List.mem_of_getElem? (i := 1039) (by decide +kernel), List.mem_of_getElem? (i := 1040) (by decide +kernel)⟩
theorem lw_p90 : lw_okq (⟨"ChoraleSearchModel", "isBehind", "(IIII)Z"⟩, 36) := ⟨⟨by decide +kernel, by decide +kernel⟩, List.mem_of_getElem? (i := 809) (by decide +kernel), List.mem_of_getElem? (i := 1043) (by decide +kernel), List.mem_of_getElem? (i := 1044) (by decide +kernel)⟩
theorem lw_p91 : lw_okq (⟨"ChoraleSearchModel", "barsStep", "(II)I"⟩, 36) := ⟨⟨by decide +kernel, by decide +kernel⟩, List.mem_of_getElem? (i := 809) (by decide +kernel), List.mem_of_getElem? (i := 1047) (by decide +kernel), List.mem_of_getElem? (i := 1048) (by decide +kernel)⟩
theorem lw_p92 : lw_okq (⟨"ChoraleSearchModel", "costOfStep", "(II)I"⟩, 36) := ⟨⟨by decide +kernel, by decide +kernel⟩, List.mem_of_getElem? (i := 809) (by decide +kernel), List.mem_of_getElem? (i := 1063) (by decide +kernel), List.mem_of_getElem? (i := 1064) (by decide +kernel)⟩
theorem lw_p93 : lw_okq (⟨"ChoraleSearchModel", "narrow", "(II)Z"⟩, 36) := ⟨⟨by decide +kernel, by decide +kernel⟩, List.mem_of_getElem? (i := 809) (by decide +kernel), List.mem_of_getElem? (i := 1067) (by decide +kernel), List.mem_of_getElem? (i := 1068) (by decide +kernel)⟩
theorem lw_p94 : lw_okq (⟨"ChoraleSearchModel", "takeRows", "()V"⟩, 36) := ⟨⟨by decide +kernel, by decide +kernel⟩, List.mem_of_getElem? (i := 809) (by decide +kernel), List.mem_of_getElem? (i := 1071) (by decide +kernel), List.mem_of_getElem? (i := 1072) (by decide +kernel)⟩
theorem lw_p95 : lw_okq (⟨"ChoraleSearchModel", "noRow", "(I)Z"⟩, 36) := ⟨⟨by decide +kernel, by decide +kernel⟩, List.mem_of_getElem? (i := 809) (by decide +kernel), List.mem_of_getElem? (i := 1079) (by decide +kernel), List.mem_of_getElem? (i := 1080) (by decide +kernel)⟩
def lw_privs_6 : List (MethodName × Nat) := [(⟨"ChoraleSearchModel", "memberOf", "(II)I"⟩, 36), (⟨"ChoraleSearchModel", "degreeOf", "(I)I"⟩, 36), (⟨"ChoraleSearchModel", "degree", "(II)I"⟩, 36), (⟨"ChoraleSearchModel", "barsState", "(II)I"⟩, 36), (⟨"ChoraleSearchModel", "putState", "(III)V"⟩, 36), (⟨"ChoraleSearchModel", "orderTo", "(II)I"⟩, 36), (⟨"ChoraleSearchModel", "costOfState", "(I)I"⟩, 36), (⟨"ChoraleSearchModel", "findAll", "()Z"⟩, 36), (⟨"ChoraleSearchModel", "goBack", "(I)Z"⟩, 36), (⟨"ChoraleSearchModel", "addWay", "(IIII)V"⟩, 36), (⟨"ChoraleSearchModel", "isBehind", "(IIII)Z"⟩, 36), (⟨"ChoraleSearchModel", "barsStep", "(II)I"⟩, 36), (⟨"ChoraleSearchModel", "costOfStep", "(II)I"⟩, 36), (⟨"ChoraleSearchModel", "narrow", "(II)Z"⟩, 36), (⟨"ChoraleSearchModel", "takeRows", "()V"⟩, 36), (⟨"ChoraleSearchModel", "noRow", "(I)Z"⟩, 36)]
theorem lw_r6 : ∀ q ∈ lw_privs_6, lw_okq q := List.forall_mem_cons.mpr ⟨lw_p80, List.forall_mem_cons.mpr ⟨lw_p81, List.forall_mem_cons.mpr ⟨lw_p82, List.forall_mem_cons.mpr ⟨lw_p83, List.forall_mem_cons.mpr ⟨lw_p84, List.forall_mem_cons.mpr ⟨lw_p85, List.forall_mem_cons.mpr ⟨lw_p86, List.forall_mem_cons.mpr ⟨lw_p87, List.forall_mem_cons.mpr ⟨lw_p88, List.forall_mem_cons.mpr ⟨lw_p89, List.forall_mem_cons.mpr ⟨lw_p90, List.forall_mem_cons.mpr ⟨lw_p91, List.forall_mem_cons.mpr ⟨lw_p92, List.forall_mem_cons.mpr ⟨lw_p93, List.forall_mem_cons.mpr ⟨lw_p94, List.forall_mem_cons.mpr ⟨lw_p95, fun _ h => absurd h List.not_mem_nil⟩⟩⟩⟩⟩⟩⟩⟩⟩⟩⟩⟩⟩⟩⟩⟩
theorem lw_p96 : lw_okq (⟨"ChoraleSearchModel", "firstBarred", "()I"⟩, 36) := ⟨⟨by decide +kernel, by decide +kernel⟩, List.mem_of_getElem? (i := 809) (by decide +kernel), List.mem_of_getElem? (i := 1100) (by decide +kernel), List.mem_of_getElem? (i := 1101) (by decide +kernel)⟩
def lw_privs_7 : List (MethodName × Nat) := [(⟨"ChoraleSearchModel", "firstBarred", "()I"⟩, 36)]
theorem lw_r7 : ∀ q ∈ lw_privs_7, lw_okq q := List.forall_mem_cons.mpr ⟨lw_p96, fun _ h => absurd h List.not_mem_nil⟩
def lw_privs : List (MethodName × Nat) := lw_privs_1 ++ (lw_privs_2 ++ (lw_privs_3 ++ (lw_privs_4 ++ (lw_privs_5 ++ (lw_privs_6 ++ (lw_privs_7))))))
def lw_tbl : List Cond := k2_sels lw_privs ++ tables_1
theorem lw_privs_ok : ∀ q ∈ lw_privs, lw_okq q := by
  show ∀ q ∈ lw_privs_1 ++ (lw_privs_2 ++ (lw_privs_3 ++ (lw_privs_4 ++ (lw_privs_5 ++ (lw_privs_6 ++ (lw_privs_7)))))), lw_okq q
  exact List.forall_mem_append.mpr ⟨lw_r1, List.forall_mem_append.mpr ⟨lw_r2, List.forall_mem_append.mpr ⟨lw_r3, List.forall_mem_append.mpr ⟨lw_r4, List.forall_mem_append.mpr ⟨lw_r5, List.forall_mem_append.mpr ⟨lw_r6, lw_r7⟩⟩⟩⟩⟩⟩
end
section
def RC_0 : String := "ChoraleSearch$Score"
def TC_0 : u_T := fun k => match k with
  | 0 => ("ChoraleSearch$Score", "placeCount", "I", false)
  | 1 => ("ChoraleSearch$Score", "styleChords", "I", false)
  | 2 => ("ChoraleSearch$Score", "pitches", "[I", true)
  | 3 => ("ChoraleSearch$Score", "figures", "[I", true)
  | 4 => ("ChoraleSearch$Score", "inversions", "[I", true)
  | 5 => ("ChoraleSearch$Score", "fermatas", "[Z", true)
  | 6 => ("ChoraleSearch$Score", "prices", "[I", true)
  | 7 => ("ChoraleSearch$Score", "lows", "[I", true)
  | _ => ("ChoraleSearch$Score", "highs", "[I", true)
def tC_0 : Nat → FieldType := fun k => match k with
  | 0 => .int
  | 1 => .int
  | 2 => .array .int
  | 3 => .array .int
  | 4 => .array .int
  | 5 => .array .boolean
  | 6 => .array .int
  | 7 => .array .int
  | _ => .array .int
theorem nC_0 : ∀ a, a < 9 → ∀ b, b < 9 → a ≠ b → (TC_0 a).2.1 ≠ (TC_0 b).2.1 := by decide +kernel
theorem oC_0 : ∀ k, k < 9 → parseFieldDescriptor (TC_0 k).2.2.1 = some (tC_0 k) := by decide +kernel
def RC_1 : String := "ChoraleSearch$Harmony"
def TC_1 : u_T := fun k => match k with
  | 0 => ("ChoraleSearch$Harmony", "tonic", "I", false)
  | 1 => ("ChoraleSearch$Harmony", "minor", "I", false)
  | 2 => ("ChoraleSearch$Harmony", "leadingClass", "I", false)
  | 3 => ("ChoraleSearch$Harmony", "memberClasses", "[I", true)
  | 4 => ("ChoraleSearch$Harmony", "chordsByMember", "[I", true)
  | 5 => ("ChoraleSearch$Harmony", "chordsByClass", "[I", true)
  | _ => ("ChoraleSearch$Harmony", "units", "[I", true)
def tC_1 : Nat → FieldType := fun k => match k with
  | 0 => .int
  | 1 => .int
  | 2 => .int
  | 3 => .array .int
  | 4 => .array .int
  | 5 => .array .int
  | _ => .array .int
theorem nC_1 : ∀ a, a < 7 → ∀ b, b < 7 → a ≠ b → (TC_1 a).2.1 ≠ (TC_1 b).2.1 := by decide +kernel
theorem oC_1 : ∀ k, k < 7 → parseFieldDescriptor (TC_1 k).2.2.1 = some (tC_1 k) := by decide +kernel
def RC_2 : String := "ChoraleSearch$StateRules"
def TC_2 : u_T := fun k => match k with
  | 0 => ("ChoraleSearch$StateRules", "score", "LChoraleSearch$Score;", true)
  | 1 => ("ChoraleSearch$StateRules", "harmony", "LChoraleSearch$Harmony;", true)
  | 2 => ("ChoraleSearch$StateRules", "bottoms", "[I", true)
  | 3 => ("ChoraleSearch$StateRules", "tops", "[I", true)
  | _ => ("ChoraleSearch$StateRules", "members", "[I", true)
def tC_2 : Nat → FieldType := fun k => match k with
  | 0 => .object "ChoraleSearch$Score"
  | 1 => .object "ChoraleSearch$Harmony"
  | 2 => .array .int
  | 3 => .array .int
  | _ => .array .int
theorem nC_2 : ∀ a, a < 5 → ∀ b, b < 5 → a ≠ b → (TC_2 a).2.1 ≠ (TC_2 b).2.1 := by decide +kernel
theorem oC_2 : ∀ k, k < 5 → parseFieldDescriptor (TC_2 k).2.2.1 = some (tC_2 k) := by decide +kernel
def RC_3 : String := "ChoraleSearch$StepRules"
def TC_3 : u_T := fun k => match k with
  | 0 => ("ChoraleSearch$StepRules", "harmony", "LChoraleSearch$Harmony;", true)
  | 1 => ("ChoraleSearch$StepRules", "fromChord", "I", false)
  | 2 => ("ChoraleSearch$StepRules", "toChord", "I", false)
  | 3 => ("ChoraleSearch$StepRules", "before", "[I", true)
  | _ => ("ChoraleSearch$StepRules", "after", "[I", true)
def tC_3 : Nat → FieldType := fun k => match k with
  | 0 => .object "ChoraleSearch$Harmony"
  | 1 => .int
  | 2 => .int
  | 3 => .array .int
  | _ => .array .int
theorem nC_3 : ∀ a, a < 5 → ∀ b, b < 5 → a ≠ b → (TC_3 a).2.1 ≠ (TC_3 b).2.1 := by decide +kernel
theorem oC_3 : ∀ k, k < 5 → parseFieldDescriptor (TC_3 k).2.2.1 = some (tC_3 k) := by decide +kernel
def RC_4 : String := "ChoraleSearch$Table"
def TC_4 : u_T := fun k => match k with
  | 0 => ("ChoraleSearch$Table", "score", "LChoraleSearch$Score;", true)
  | 1 => ("ChoraleSearch$Table", "rules", "LChoraleSearch$StateRules;", true)
  | 2 => ("ChoraleSearch$Table", "layers", "[LChoraleSearch$Layer;", true)
  | _ => ("ChoraleSearch$Table", "fresh", "Z", false)
def tC_4 : Nat → FieldType := fun k => match k with
  | 0 => .object "ChoraleSearch$Score"
  | 1 => .object "ChoraleSearch$StateRules"
  | 2 => .array (.object "ChoraleSearch$Layer")
  | _ => .boolean
theorem nC_4 : ∀ a, a < 4 → ∀ b, b < 4 → a ≠ b → (TC_4 a).2.1 ≠ (TC_4 b).2.1 := by decide +kernel
theorem oC_4 : ∀ k, k < 4 → parseFieldDescriptor (TC_4 k).2.2.1 = some (tC_4 k) := by decide +kernel
def RC_5 : String := "ChoraleSearch$Layer"
def TC_5 : u_T := fun k => match k with
  | 0 => ("ChoraleSearch$Layer", "size", "I", false)
  | 1 => ("ChoraleSearch$Layer", "codes", "[I", true)
  | _ => ("ChoraleSearch$Layer", "marks", "[I", true)
def tC_5 : Nat → FieldType := fun k => match k with
  | 0 => .int
  | 1 => .array .int
  | _ => .array .int
theorem nC_5 : ∀ a, a < 3 → ∀ b, b < 3 → a ≠ b → (TC_5 a).2.1 ≠ (TC_5 b).2.1 := by decide +kernel
theorem oC_5 : ∀ k, k < 3 → parseFieldDescriptor (TC_5 k).2.2.1 = some (tC_5 k) := by decide +kernel
def RC_6 : String := "ChoraleSearch$Reach"
def TC_6 : u_T := fun k => match k with
  | 0 => ("ChoraleSearch$Reach", "score", "LChoraleSearch$Score;", true)
  | 1 => ("ChoraleSearch$Reach", "table", "LChoraleSearch$Table;", true)
  | 2 => ("ChoraleSearch$Reach", "stateRules", "LChoraleSearch$StateRules;", true)
  | 3 => ("ChoraleSearch$Reach", "stepRules", "LChoraleSearch$StepRules;", true)
  | _ => ("ChoraleSearch$Reach", "trial", "LChoraleSearch$Layer;", true)
def tC_6 : Nat → FieldType := fun k => match k with
  | 0 => .object "ChoraleSearch$Score"
  | 1 => .object "ChoraleSearch$Table"
  | 2 => .object "ChoraleSearch$StateRules"
  | 3 => .object "ChoraleSearch$StepRules"
  | _ => .object "ChoraleSearch$Layer"
theorem nC_6 : ∀ a, a < 5 → ∀ b, b < 5 → a ≠ b → (TC_6 a).2.1 ≠ (TC_6 b).2.1 := by decide +kernel
theorem oC_6 : ∀ k, k < 5 → parseFieldDescriptor (TC_6 k).2.2.1 = some (tC_6 k) := by decide +kernel
def RC_7 : String := "ChoraleSearch$Costs"
def TC_7 : u_T := fun k => match k with
  | 0 => ("ChoraleSearch$Costs", "score", "LChoraleSearch$Score;", true)
  | _ => ("ChoraleSearch$Costs", "harmony", "LChoraleSearch$Harmony;", true)
def tC_7 : Nat → FieldType := fun k => match k with
  | 0 => .object "ChoraleSearch$Score"
  | _ => .object "ChoraleSearch$Harmony"
theorem nC_7 : ∀ a, a < 2 → ∀ b, b < 2 → a ≠ b → (TC_7 a).2.1 ≠ (TC_7 b).2.1 := by decide +kernel
theorem oC_7 : ∀ k, k < 2 → parseFieldDescriptor (TC_7 k).2.2.1 = some (tC_7 k) := by decide +kernel
def RC_8 : String := "ChoraleSearch$RowSearch"
def TC_8 : u_T := fun k => match k with
  | 0 => ("ChoraleSearch$RowSearch", "score", "LChoraleSearch$Score;", true)
  | 1 => ("ChoraleSearch$RowSearch", "table", "LChoraleSearch$Table;", true)
  | 2 => ("ChoraleSearch$RowSearch", "steps", "LChoraleSearch$StepRules;", true)
  | 3 => ("ChoraleSearch$RowSearch", "costs", "LChoraleSearch$Costs;", true)
  | 4 => ("ChoraleSearch$RowSearch", "links", "[[I", true)
  | 5 => ("ChoraleSearch$RowSearch", "sums", "[I", false)
  | 6 => ("ChoraleSearch$RowSearch", "laterSums", "[I", false)
  | 7 => ("ChoraleSearch$RowSearch", "alive", "[I", true)
  | 8 => ("ChoraleSearch$RowSearch", "aliveCount", "I", false)
  | 9 => ("ChoraleSearch$RowSearch", "beamStates", "[I", true)
  | 10 => ("ChoraleSearch$RowSearch", "rowLinks", "[I", true)
  | 11 => ("ChoraleSearch$RowSearch", "rowSums", "[I", true)
  | 12 => ("ChoraleSearch$RowSearch", "rowCodes", "[I", true)
  | 13 => ("ChoraleSearch$RowSearch", "rowCount", "I", false)
  | _ => ("ChoraleSearch$RowSearch", "leftOut", "Z", false)
def tC_8 : Nat → FieldType := fun k => match k with
  | 0 => .object "ChoraleSearch$Score"
  | 1 => .object "ChoraleSearch$Table"
  | 2 => .object "ChoraleSearch$StepRules"
  | 3 => .object "ChoraleSearch$Costs"
  | 4 => .array (.array .int)
  | 5 => .array .int
  | 6 => .array .int
  | 7 => .array .int
  | 8 => .int
  | 9 => .array .int
  | 10 => .array .int
  | 11 => .array .int
  | 12 => .array .int
  | 13 => .int
  | _ => .boolean
theorem nC_8 : ∀ a, a < 15 → ∀ b, b < 15 → a ≠ b → (TC_8 a).2.1 ≠ (TC_8 b).2.1 := by decide +kernel
theorem oC_8 : ∀ k, k < 15 → parseFieldDescriptor (TC_8 k).2.2.1 = some (tC_8 k) := by decide +kernel
def RC_9 : String := "ChoraleSearch"
def TC_9 : u_T := fun k => match k with
  | 0 => ("ChoraleSearch", "score", "LChoraleSearch$Score;", true)
  | 1 => ("ChoraleSearch", "harmony", "LChoraleSearch$Harmony;", true)
  | 2 => ("ChoraleSearch", "table", "LChoraleSearch$Table;", true)
  | 3 => ("ChoraleSearch", "reach", "LChoraleSearch$Reach;", true)
  | _ => ("ChoraleSearch", "search", "LChoraleSearch$RowSearch;", true)
def tC_9 : Nat → FieldType := fun k => match k with
  | 0 => .object "ChoraleSearch$Score"
  | 1 => .object "ChoraleSearch$Harmony"
  | 2 => .object "ChoraleSearch$Table"
  | 3 => .object "ChoraleSearch$Reach"
  | _ => .object "ChoraleSearch$RowSearch"
theorem nC_9 : ∀ a, a < 5 → ∀ b, b < 5 → a ≠ b → (TC_9 a).2.1 ≠ (TC_9 b).2.1 := by decide +kernel
theorem oC_9 : ∀ k, k < 5 → parseFieldDescriptor (TC_9 k).2.2.1 = some (tC_9 k) := by decide +kernel
def RC_10 : String := "ChoraleSearchModel"
def TC_10 : u_T := fun k => match k with
  | 0 => ("ChoraleSearchModel", "thrown", "I", false)
  | 1 => ("ChoraleSearchModel", "major", "[I", true)
  | 2 => ("ChoraleSearchModel", "minorOnes", "[I", true)
  | 3 => ("ChoraleSearchModel", "scaleMajor", "[I", true)
  | 4 => ("ChoraleSearchModel", "scaleMinor", "[I", true)
  | 5 => ("ChoraleSearchModel", "tonic", "I", false)
  | 6 => ("ChoraleSearchModel", "isMinor", "Z", false)
  | 7 => ("ChoraleSearchModel", "places", "I", false)
  | 8 => ("ChoraleSearchModel", "given", "[I", true)
  | 9 => ("ChoraleSearchModel", "figure", "[I", true)
  | 10 => ("ChoraleSearchModel", "inversion", "[I", true)
  | 11 => ("ChoraleSearchModel", "fermata", "[Z", true)
  | 12 => ("ChoraleSearchModel", "style", "[Z", true)
  | 13 => ("ChoraleSearchModel", "cost", "[I", true)
  | 14 => ("ChoraleSearchModel", "low", "[I", true)
  | 15 => ("ChoraleSearchModel", "high", "[I", true)
  | 16 => ("ChoraleSearchModel", "pitch", "[I", true)
  | 17 => ("ChoraleSearchModel", "chordOf", "[I", true)
  | 18 => ("ChoraleSearchModel", "stateCost", "[I", true)
  | 19 => ("ChoraleSearchModel", "many", "[I", true)
  | 20 => ("ChoraleSearchModel", "waySum", "[I", true)
  | 21 => ("ChoraleSearchModel", "wayState", "[I", true)
  | 22 => ("ChoraleSearchModel", "wayRank", "[I", true)
  | 23 => ("ChoraleSearchModel", "ways", "[I", true)
  | 24 => ("ChoraleSearchModel", "isKept", "[Z", true)
  | 25 => ("ChoraleSearchModel", "isCome", "[Z", true)
  | 26 => ("ChoraleSearchModel", "rows", "I", false)
  | 27 => ("ChoraleSearchModel", "rowPitch", "[I", true)
  | 28 => ("ChoraleSearchModel", "rowChord", "[I", true)
  | 29 => ("ChoraleSearchModel", "rowSum", "[I", true)
  | 30 => ("ChoraleSearchModel", "isSure", "Z", false)
  | 31 => ("ChoraleSearchModel", "now", "[I", true)
  | 32 => ("ChoraleSearchModel", "barred", "I", false)
  | 33 => ("ChoraleSearchModel", "topState", "[I", true)
  | 34 => ("ChoraleSearchModel", "topRank", "[I", true)
  | _ => ("ChoraleSearchModel", "stepBars", "I", false)
def tC_10 : Nat → FieldType := fun k => match k with
  | 0 => .int
  | 1 => .array .int
  | 2 => .array .int
  | 3 => .array .int
  | 4 => .array .int
  | 5 => .int
  | 6 => .boolean
  | 7 => .int
  | 8 => .array .int
  | 9 => .array .int
  | 10 => .array .int
  | 11 => .array .boolean
  | 12 => .array .boolean
  | 13 => .array .int
  | 14 => .array .int
  | 15 => .array .int
  | 16 => .array .int
  | 17 => .array .int
  | 18 => .array .int
  | 19 => .array .int
  | 20 => .array .int
  | 21 => .array .int
  | 22 => .array .int
  | 23 => .array .int
  | 24 => .array .boolean
  | 25 => .array .boolean
  | 26 => .int
  | 27 => .array .int
  | 28 => .array .int
  | 29 => .array .int
  | 30 => .boolean
  | 31 => .array .int
  | 32 => .int
  | 33 => .array .int
  | 34 => .array .int
  | _ => .int
theorem nC_10 : ∀ a, a < 36 → ∀ b, b < 36 → a ≠ b → (TC_10 a).2.1 ≠ (TC_10 b).2.1 := by decide +kernel
theorem oC_10 : ∀ k, k < 36 → parseFieldDescriptor (TC_10 k).2.2.1 = some (tC_10 k) := by decide +kernel
abbrev ri_cl : List vw_C := [(RC_0, TC_0, 9), (RC_1, TC_1, 7), (RC_2, TC_2, 5), (RC_3, TC_3, 5), (RC_4, TC_4, 4), (RC_5, TC_5, 3), (RC_6, TC_6, 5), (RC_7, TC_7, 2), (RC_8, TC_8, 15), (RC_9, TC_9, 5), (RC_10, TC_10, 36)]
def ri_kt : List FieldType := [.int, .boolean, .object "ChoraleSearch$Layer", .array .int]
def st_FUNCTIONS : List Int32 := [0, 1, 0, 1, 2, 0, 2, 2, 1, 3, 3, 3, 3]
def st_MAJOR : List Int32 := [0, 4, 7, -2, 2, 5, 9, -2, 4, 7, 11, -2, 5, 9, 0, -2, 7, 11, 2, -2, 9, 0, 4, -2, 11, 2, 5, -2, 7, 11, 2, 5, 2, 5, 9, 0, 2, 6, 9, -2, 2, 6, 9, 0, 4, 8, 11, -2, 0, 4, 7, 10]
def st_MINOR : List Int32 := [0, 3, 7, -2, 2, 5, 8, -2, 3, 7, 10, -2, 5, 8, 0, -2, 7, 11, 2, -2, 8, 0, 3, -2, 11, 2, 5, -2, 7, 11, 2, 5, 2, 5, 8, 0, 2, 6, 9, -2, 2, 6, 9, 0, 3, 7, 10, -2, 0, 4, 7, 10]
def st_WIDEST_BELOW : List Int32 := [12, 12, 19]
def st_INVERSION_UNITS : List Int32 := [0, 1, 6, 2]
def ri_ST : List (String × String × String × Nat × (Nat → Int32)) := [("ChoraleSearch$Harmony", "FUNCTIONS", "[I", 13, fun i => st_FUNCTIONS.getD i 0), ("ChoraleSearch$Harmony", "MAJOR", "[I", 52, fun i => st_MAJOR.getD i 0), ("ChoraleSearch$Harmony", "MINOR", "[I", 52, fun i => st_MINOR.getD i 0), ("ChoraleSearch$StateRules", "WIDEST_BELOW", "[I", 3, fun i => st_WIDEST_BELOW.getD i 0), ("ChoraleSearch$Costs", "INVERSION_UNITS", "[I", 4, fun i => st_INVERSION_UNITS.getD i 0)]
def ri_AO : List String := ["ChoraleSearch$Layer"]
def nw_26 : Cond := Cond.methodLinkNest "ChoraleSearch" 9 ⟨"ChoraleSearch$Score", "<init>", "()V"⟩ "ChoraleSearch"
def nw_35 : Cond := Cond.fieldLinkNest "ChoraleSearch$Reach" 34 "ChoraleSearch$Score" "placeCount" "I" "ChoraleSearch"
def nw_36 : Cond := Cond.fieldLinkNest "ChoraleSearch$Table" 30 "ChoraleSearch$Score" "placeCount" "I" "ChoraleSearch"
def nw_37 : Cond := Cond.fieldLinkNest "ChoraleSearch" 70 "ChoraleSearch$Score" "placeCount" "I" "ChoraleSearch"
def nw_38 : Cond := Cond.fieldLinkNest "ChoraleSearch$RowSearch" 65 "ChoraleSearch$Score" "placeCount" "I" "ChoraleSearch"
def nw_40 : Cond := Cond.fieldLinkNest "ChoraleSearch" 106 "ChoraleSearch$Score" "styleChords" "I" "ChoraleSearch"
def nw_42 : Cond := Cond.fieldLinkNest "ChoraleSearch$Reach" 98 "ChoraleSearch$Score" "pitches" "[I" "ChoraleSearch"
def nw_43 : Cond := Cond.fieldLinkNest "ChoraleSearch" 201 "ChoraleSearch$Score" "pitches" "[I" "ChoraleSearch"
def nw_45 : Cond := Cond.fieldLinkNest "ChoraleSearch" 92 "ChoraleSearch$Score" "figures" "[I" "ChoraleSearch"
def nw_47 : Cond := Cond.fieldLinkNest "ChoraleSearch$StateRules" 105 "ChoraleSearch$Score" "inversions" "[I" "ChoraleSearch"
def nw_48 : Cond := Cond.fieldLinkNest "ChoraleSearch" 96 "ChoraleSearch$Score" "inversions" "[I" "ChoraleSearch"
def nw_50 : Cond := Cond.fieldLinkNest "ChoraleSearch$StateRules" 101 "ChoraleSearch$Score" "fermatas" "[Z" "ChoraleSearch"
def nw_51 : Cond := Cond.fieldLinkNest "ChoraleSearch" 99 "ChoraleSearch$Score" "fermatas" "[Z" "ChoraleSearch"
def nw_53 : Cond := Cond.fieldLinkNest "ChoraleSearch$Costs" 19 "ChoraleSearch$Score" "prices" "[I" "ChoraleSearch"
def nw_54 : Cond := Cond.fieldLinkNest "ChoraleSearch" 109 "ChoraleSearch$Score" "prices" "[I" "ChoraleSearch"
def nw_56 : Cond := Cond.fieldLinkNest "ChoraleSearch" 112 "ChoraleSearch$Score" "lows" "[I" "ChoraleSearch"
def nw_58 : Cond := Cond.fieldLinkNest "ChoraleSearch" 115 "ChoraleSearch$Score" "highs" "[I" "ChoraleSearch"
def nw_82 : Cond := Cond.methodLinkNest "ChoraleSearch" 18 ⟨"ChoraleSearch$Harmony", "<init>", "()V"⟩ "ChoraleSearch"
def nw_116 : Cond := Cond.fieldLinkNest "ChoraleSearch" 184 "ChoraleSearch$Harmony" "tonic" "I" "ChoraleSearch"
def nw_118 : Cond := Cond.fieldLinkNest "ChoraleSearch" 187 "ChoraleSearch$Harmony" "minor" "I" "ChoraleSearch"
def nw_120 : Cond := Cond.fieldLinkNest "ChoraleSearch$StateRules" 120 "ChoraleSearch$Harmony" "leadingClass" "I" "ChoraleSearch"
def nw_121 : Cond := Cond.fieldLinkNest "ChoraleSearch$StepRules" 77 "ChoraleSearch$Harmony" "leadingClass" "I" "ChoraleSearch"
def nw_143 : Cond := Cond.methodLinkNest "ChoraleSearch" 25 ⟨"ChoraleSearch$StateRules", "<init>", "(LChoraleSearch$Score;LChoraleSearch$Harmony;)V"⟩ "ChoraleSearch"
def nw_165 : Cond := Cond.methodLinkNest "ChoraleSearch" 30 ⟨"ChoraleSearch$StepRules", "<init>", "(LChoraleSearch$Harmony;)V"⟩ "ChoraleSearch"
def nw_187 : Cond := Cond.methodLinkNest "ChoraleSearch" 35 ⟨"ChoraleSearch$Table", "<init>", "(LChoraleSearch$Score;LChoraleSearch$StateRules;)V"⟩ "ChoraleSearch"
def nw_194 : Cond := Cond.methodLinkNest "ChoraleSearch$Table" 25 ⟨"ChoraleSearch$Layer", "<init>", "()V"⟩ "ChoraleSearch"
def nw_199 : Cond := Cond.fieldLinkNest "ChoraleSearch$StateRules" 29 "ChoraleSearch$Layer" "size" "I" "ChoraleSearch"
def nw_200 : Cond := Cond.fieldLinkNest "ChoraleSearch$Table" 42 "ChoraleSearch$Layer" "size" "I" "ChoraleSearch"
def nw_201 : Cond := Cond.fieldLinkNest "ChoraleSearch$Reach" 79 "ChoraleSearch$Layer" "size" "I" "ChoraleSearch"
def nw_202 : Cond := Cond.fieldLinkNest "ChoraleSearch" 158 "ChoraleSearch$Layer" "size" "I" "ChoraleSearch"
def nw_204 : Cond := Cond.fieldLinkNest "ChoraleSearch$Reach" 54 "ChoraleSearch$Layer" "codes" "[I" "ChoraleSearch"
def nw_205 : Cond := Cond.fieldLinkNest "ChoraleSearch$RowSearch" 105 "ChoraleSearch$Layer" "codes" "[I" "ChoraleSearch"
def nw_207 : Cond := Cond.fieldLinkNest "ChoraleSearch$Reach" 62 "ChoraleSearch$Layer" "marks" "[I" "ChoraleSearch"
def nw_218 : Cond := Cond.fieldLinkNest "ChoraleSearch$Reach" 44 "ChoraleSearch$Table" "layers" "[LChoraleSearch$Layer;" "ChoraleSearch"
def nw_219 : Cond := Cond.fieldLinkNest "ChoraleSearch$RowSearch" 87 "ChoraleSearch$Table" "layers" "[LChoraleSearch$Layer;" "ChoraleSearch"
def nw_220 : Cond := Cond.fieldLinkNest "ChoraleSearch" 154 "ChoraleSearch$Table" "layers" "[LChoraleSearch$Layer;" "ChoraleSearch"
def nw_233 : Cond := Cond.methodLinkNest "ChoraleSearch" 44 ⟨"ChoraleSearch$Reach", "<init>", "(LChoraleSearch$Score;LChoraleSearch$Table;LChoraleSearch$StateRules;LChoraleSearch$StepRules;)V"⟩ "ChoraleSearch"
def nw_238 : Cond := Cond.methodLinkNest "ChoraleSearch$Reach" 11 ⟨"ChoraleSearch$Layer", "<init>", "()V"⟩ "ChoraleSearch"
def nw_259 : Cond := Cond.methodLinkNest "ChoraleSearch" 55 ⟨"ChoraleSearch$Costs", "<init>", "(LChoraleSearch$Score;LChoraleSearch$Harmony;)V"⟩ "ChoraleSearch"
def nw_270 : Cond := Cond.methodLinkNest "ChoraleSearch" 56 ⟨"ChoraleSearch$RowSearch", "<init>", "(LChoraleSearch$Score;LChoraleSearch$Table;LChoraleSearch$StepRules;LChoraleSearch$Costs;)V"⟩ "ChoraleSearch"
def nw_288 : Cond := Cond.fieldLinkNest "ChoraleSearch" 147 "ChoraleSearch$RowSearch" "rowSums" "[I" "ChoraleSearch"
def nw_291 : Cond := Cond.fieldLinkNest "ChoraleSearch" 128 "ChoraleSearch$RowSearch" "rowCount" "I" "ChoraleSearch"
def nw_293 : Cond := Cond.fieldLinkNest "ChoraleSearch" 150 "ChoraleSearch$RowSearch" "leftOut" "Z" "ChoraleSearch"
def nw_345 : Cond := Cond.methodLinkNest "ChoraleSearch" 63 ⟨"ChoraleSearch$Harmony", "tune", "(II)V"⟩ "ChoraleSearch"
def nw_350 : Cond := Cond.methodLinkNest "ChoraleSearch" 204 ⟨"ChoraleSearch$RowSearch", "forget", "()V"⟩ "ChoraleSearch"
def nw_354 : Cond := Cond.methodLinkNest "ChoraleSearch" 207 ⟨"ChoraleSearch$Table", "spoil", "()V"⟩ "ChoraleSearch"
def nw_362 : Cond := Cond.methodLinkNest "ChoraleSearch" 74 ⟨"ChoraleSearch$Score", "clearFrom", "(I)V"⟩ "ChoraleSearch"
def nw_416 : Cond := Cond.methodLinkNest "ChoraleSearch" 118 ⟨"ChoraleSearch$Table", "prepare", "()V"⟩ "ChoraleSearch"
def nw_420 : Cond := Cond.methodLinkNest "ChoraleSearch$Table" 36 ⟨"ChoraleSearch$StateRules", "fill", "(LChoraleSearch$Layer;I)V"⟩ "ChoraleSearch"
def nw_428 : Cond := Cond.methodLinkNest "ChoraleSearch$StateRules" 74 ⟨"ChoraleSearch$Score", "lowAt", "(II)I"⟩ "ChoraleSearch"
def nw_435 : Cond := Cond.methodLinkNest "ChoraleSearch$StateRules" 77 ⟨"ChoraleSearch$Score", "highAt", "(II)I"⟩ "ChoraleSearch"
def nw_442 : Cond := Cond.methodLinkNest "ChoraleSearch$StateRules" 39 ⟨"ChoraleSearch$Score", "figuredChords", "(I)I"⟩ "ChoraleSearch"
def nw_450 : Cond := Cond.methodLinkNest "ChoraleSearch$StateRules" 97 ⟨"ChoraleSearch$Score", "isLast", "(I)Z"⟩ "ChoraleSearch"
def nw_454 : Cond := Cond.methodLinkNest "ChoraleSearch$StateRules" 48 ⟨"ChoraleSearch$Harmony", "chordsWith", "(I)I"⟩ "ChoraleSearch"
def nw_462 : Cond := Cond.methodLinkNest "ChoraleSearch$StateRules" 65 ⟨"ChoraleSearch$Code", "withVoice", "(II)I"⟩ "ChoraleSearch"
def nw_473 : Cond := Cond.methodLinkNest "ChoraleSearch$StateRules" 108 ⟨"ChoraleSearch$Harmony", "chordsWithMember", "(II)I"⟩ "ChoraleSearch"
def nw_481 : Cond := Cond.methodLinkNest "ChoraleSearch$StateRules" 87 ⟨"ChoraleSearch$Code", "withChord", "(II)I"⟩ "ChoraleSearch"
def nw_488 : Cond := Cond.methodLinkNest "ChoraleSearch$StateRules" 111 ⟨"ChoraleSearch$Harmony", "memberClass", "(II)I"⟩ "ChoraleSearch"
def nw_492 : Cond := Cond.methodLinkNest "ChoraleSearch$StateRules" 114 ⟨"ChoraleSearch$Code", "timesClass", "(II)I"⟩ "ChoraleSearch"
def nw_495 : Cond := Cond.methodLinkNest "ChoraleSearch$StateRules" 117 ⟨"ChoraleSearch$Harmony", "guardsLeading", "(I)Z"⟩ "ChoraleSearch"
def nw_499 : Cond := Cond.methodLinkNest "ChoraleSearch$StateRules" 94 ⟨"ChoraleSearch$Layer", "add", "(I)V"⟩ "ChoraleSearch"
def nw_503 : Cond := Cond.methodLinkNest "ChoraleSearch" 121 ⟨"ChoraleSearch$Table", "overflows", "()Z"⟩ "ChoraleSearch"
def nw_507 : Cond := Cond.methodLinkNest "ChoraleSearch" 125 ⟨"ChoraleSearch$RowSearch", "run", "(I)V"⟩ "ChoraleSearch"
def nw_517 : Cond := Cond.methodLinkNest "ChoraleSearch$RowSearch" 99 ⟨"ChoraleSearch$Layer", "kept", "()I"⟩ "ChoraleSearch"
def nw_522 : Cond := Cond.methodLinkNest "ChoraleSearch$RowSearch" 108 ⟨"ChoraleSearch$Costs", "ofState", "(I)I"⟩ "ChoraleSearch"
def nw_530 : Cond := Cond.methodLinkNest "ChoraleSearch$Costs" 43 ⟨"ChoraleSearch$Code", "pitchOf", "(II)I"⟩ "ChoraleSearch"
def nw_533 : Cond := Cond.methodLinkNest "ChoraleSearch$Costs" 38 ⟨"ChoraleSearch$Code", "chordOf", "(I)I"⟩ "ChoraleSearch"
def nw_536 : Cond := Cond.methodLinkNest "ChoraleSearch$Costs" 46 ⟨"ChoraleSearch$Harmony", "memberClass", "(II)I"⟩ "ChoraleSearch"
def nw_542 : Cond := Cond.methodLinkNest "ChoraleSearch$Costs" 32 ⟨"ChoraleSearch$Harmony", "timesMember", "(II)I"⟩ "ChoraleSearch"
def nw_546 : Cond := Cond.methodLinkNest "ChoraleSearch$Harmony" 74 ⟨"ChoraleSearch$Code", "chordOf", "(I)I"⟩ "ChoraleSearch"
def nw_548 : Cond := Cond.methodLinkNest "ChoraleSearch$Harmony" 83 ⟨"ChoraleSearch$Code", "timesClass", "(II)I"⟩ "ChoraleSearch"
def nw_549 : Cond := Cond.methodLinkNest "ChoraleSearch$RowSearch" 114 ⟨"ChoraleSearch$Score", "isLast", "(I)Z"⟩ "ChoraleSearch"
def nw_557 : Cond := Cond.methodLinkNest "ChoraleSearch$RowSearch" 129 ⟨"ChoraleSearch$StepRules", "allow", "(II)Z"⟩ "ChoraleSearch"
def nw_565 : Cond := Cond.methodLinkNest "ChoraleSearch$StepRules" 45 ⟨"ChoraleSearch$Code", "chordOf", "(I)I"⟩ "ChoraleSearch"
def nw_566 : Cond := Cond.methodLinkNest "ChoraleSearch$StepRules" 58 ⟨"ChoraleSearch$Code", "unpack", "(I[I)V"⟩ "ChoraleSearch"
def nw_573 : Cond := Cond.methodLinkNest "ChoraleSearch$StepRules" 62 ⟨"ChoraleSearch$Harmony", "unitsBetween", "(II)I"⟩ "ChoraleSearch"
def nw_604 : Cond := Cond.methodLinkNest "ChoraleSearch$StepRules" 80 ⟨"ChoraleSearch$Harmony", "memberClass", "(II)I"⟩ "ChoraleSearch"
def nw_605 : Cond := Cond.methodLinkNest "ChoraleSearch$RowSearch" 135 ⟨"ChoraleSearch$Costs", "ofStep", "(II)I"⟩ "ChoraleSearch"
def nw_609 : Cond := Cond.methodLinkNest "ChoraleSearch$Costs" 52 ⟨"ChoraleSearch$Harmony", "unitsBetween", "(II)I"⟩ "ChoraleSearch"
def nw_654 : Cond := Cond.methodLinkNest "ChoraleSearch" 134 ⟨"ChoraleSearch$RowSearch", "codeAt", "(II)I"⟩ "ChoraleSearch"
def nw_658 : Cond := Cond.methodLinkNest "ChoraleSearch" 138 ⟨"ChoraleSearch$Code", "pitchOf", "(II)I"⟩ "ChoraleSearch"
def nw_663 : Cond := Cond.methodLinkNest "ChoraleSearch" 143 ⟨"ChoraleSearch$Code", "chordOf", "(I)I"⟩ "ChoraleSearch"
def nw_680 : Cond := Cond.methodLinkNest "ChoraleSearch" 163 ⟨"ChoraleSearch$Reach", "firstUnreached", "()I"⟩ "ChoraleSearch"
def nw_688 : Cond := Cond.methodLinkNest "ChoraleSearch$Reach" 50 ⟨"ChoraleSearch$Layer", "kept", "()I"⟩ "ChoraleSearch"
def nw_693 : Cond := Cond.methodLinkNest "ChoraleSearch$Reach" 65 ⟨"ChoraleSearch$Layer", "isMarked", "(II)Z"⟩ "ChoraleSearch"
def nw_697 : Cond := Cond.methodLinkNest "ChoraleSearch$Reach" 68 ⟨"ChoraleSearch$StepRules", "allow", "(II)Z"⟩ "ChoraleSearch"
def nw_698 : Cond := Cond.methodLinkNest "ChoraleSearch" 167 ⟨"ChoraleSearch$Reach", "barringRules", "(I)I"⟩ "ChoraleSearch"
def nw_702 : Cond := Cond.methodLinkNest "ChoraleSearch$Reach" 82 ⟨"ChoraleSearch$StateRules", "barring", "(I)I"⟩ "ChoraleSearch"
def nw_750 : Cond := Cond.methodLinkNest "ChoraleSearch$Reach" 92 ⟨"ChoraleSearch$StepRules", "barring", "(II)I"⟩ "ChoraleSearch"
def nw_758 : Cond := Cond.methodLinkNest "ChoraleSearch" 170 ⟨"ChoraleSearch$Reach", "noteToGiveWay", "()I"⟩ "ChoraleSearch"
def nw_770 : Cond := Cond.methodLinkNest "ChoraleSearch$Reach" 76 ⟨"ChoraleSearch$Score", "isLast", "(I)Z"⟩ "ChoraleSearch"
def nw_771 : Cond := Cond.methodLinkNest "ChoraleSearch$Reach" 101 ⟨"ChoraleSearch$StateRules", "fill", "(LChoraleSearch$Layer;I)V"⟩ "ChoraleSearch"
def nw_782 : Cond := Cond.methodLinkNest "ChoraleSearch" 181 ⟨"ChoraleSearch$Harmony", "inScale", "(I)Z"⟩ "ChoraleSearch"
def nw_793 : Cond := Cond.methodLinkNest "ChoraleSearch" 190 ⟨"ChoraleSearch$Score", "givenNotes", "()I"⟩ "ChoraleSearch"
def nw_807 : Cond := Cond.methodLinkNest "ChoraleSearch" 198 ⟨"ChoraleSearch$Harmony", "memberClass", "(II)I"⟩ "ChoraleSearch"
def ri_NW : List Cond := [nw_26, nw_35, nw_36, nw_37, nw_38, nw_40, nw_42, nw_43, nw_45, nw_47, nw_48, nw_50, nw_51, nw_53, nw_54, nw_56, nw_58, nw_82, nw_116, nw_118, nw_120, nw_121, nw_143, nw_165, nw_187, nw_194, nw_199, nw_200, nw_201, nw_202, nw_204, nw_205, nw_207, nw_218, nw_219, nw_220, nw_233, nw_238, nw_259, nw_270, nw_288, nw_291, nw_293, nw_345, nw_350, nw_354, nw_362, nw_416, nw_420, nw_428, nw_435, nw_442, nw_450, nw_454, nw_462, nw_473, nw_481, nw_488, nw_492, nw_495, nw_499, nw_503, nw_507, nw_517, nw_522, nw_530, nw_533, nw_536, nw_542, nw_546, nw_548, nw_549, nw_557, nw_565, nw_566, nw_573, nw_604, nw_605, nw_609, nw_654, nw_658, nw_663, nw_680, nw_688, nw_693, nw_697, nw_698, nw_702, nw_750, nw_758, nw_770, nw_771, nw_782, nw_793, nw_807]
end
section
def gw_0 : Cond := Cond.initialized "ChoraleSearchLaw"
def gw_1 : Cond := Cond.initialized "ChoraleSearch"
def gw_2 : Cond := Cond.initialized "ChoraleSearch$Score"
def gw_3 : Cond := Cond.initialized "ChoraleSearch$Harmony"
def gw_4 : Cond := Cond.initialized "java/util/Arrays"
def gw_5 : Cond := Cond.initialized "ChoraleSearch$StateRules"
def gw_6 : Cond := Cond.initialized "ChoraleSearch$StepRules"
def gw_7 : Cond := Cond.initialized "ChoraleSearch$Table"
def gw_8 : Cond := Cond.initialized "ChoraleSearch$Layer"
def gw_9 : Cond := Cond.initialized "ChoraleSearch$Reach"
def gw_10 : Cond := Cond.initialized "ChoraleSearch$RowSearch"
def gw_11 : Cond := Cond.initialized "ChoraleSearch$Costs"
def gw_12 : Cond := Cond.initialized "ChoraleSearchModel"
def gw_13 : Cond := Cond.initialized "java/lang/Math"
def gw_14 : Cond := Cond.initialized "ChoraleSearch$Code"
def gw_15 : Cond := Cond.initialized "java/lang/Integer"
def gw_16 : Cond := Cond.classLink "ChoraleSearchLaw" 7 "ChoraleSearch"
def gw_17 : Cond := Cond.instantiable "ChoraleSearch" 5
def gw_18 : Cond := Cond.methodLink "ChoraleSearchLaw" 9 ⟨"ChoraleSearch", "<init>", "()V"⟩
def gw_19 : Cond := Cond.instanceMethod ⟨"ChoraleSearch", "<init>", "()V"⟩
def gw_20 : Cond := Cond.code ⟨"ChoraleSearch", "<init>", "()V"⟩ prog_1_method_1_code 3 none
def gw_21 : Cond := Cond.methodLink "ChoraleSearch" 1 ⟨"java/lang/Object", "<init>", "()V"⟩
def gw_22 : Cond := Cond.instanceMethod ⟨"java/lang/Object", "<init>", "()V"⟩
def gw_23 : Cond := Cond.code ⟨"java/lang/Object", "<init>", "()V"⟩ object_method_1_code 1 none
def gw_24 : Cond := Cond.classLink "ChoraleSearch" 7 "ChoraleSearch$Score"
def gw_25 : Cond := Cond.instantiable "ChoraleSearch$Score" 9
def gw_27 : Cond := Cond.instanceMethod ⟨"ChoraleSearch$Score", "<init>", "()V"⟩
def gw_28 : Cond := Cond.code ⟨"ChoraleSearch$Score", "<init>", "()V"⟩ prog_8_method_1_code 1 none
def gw_29 : Cond := Cond.methodLink "ChoraleSearch$Score" 3 ⟨"java/lang/Object", "<init>", "()V"⟩
def gw_30 : Cond := Cond.methodLink "ChoraleSearch$Score" 41 ⟨"ChoraleSearch$Score", "clearFrom", "(I)V"⟩
def gw_32 : Cond := Cond.instanceMethod ⟨"ChoraleSearch$Score", "clearFrom", "(I)V"⟩
def gw_33 : Cond := Cond.code ⟨"ChoraleSearch$Score", "clearFrom", "(I)V"⟩ prog_8_method_2_code 4 none
def gw_34 : Cond := Cond.fieldLink "ChoraleSearch$Score" 9 "ChoraleSearch$Score" "placeCount" "I"
def gw_39 : Cond := Cond.fieldLink "ChoraleSearch$Score" 15 "ChoraleSearch$Score" "styleChords" "I"
def gw_41 : Cond := Cond.fieldLink "ChoraleSearch$Score" 18 "ChoraleSearch$Score" "pitches" "[I"
def gw_44 : Cond := Cond.fieldLink "ChoraleSearch$Score" 22 "ChoraleSearch$Score" "figures" "[I"
def gw_46 : Cond := Cond.fieldLink "ChoraleSearch$Score" 25 "ChoraleSearch$Score" "inversions" "[I"
def gw_49 : Cond := Cond.fieldLink "ChoraleSearch$Score" 28 "ChoraleSearch$Score" "fermatas" "[Z"
def gw_52 : Cond := Cond.fieldLink "ChoraleSearch$Score" 32 "ChoraleSearch$Score" "prices" "[I"
def gw_55 : Cond := Cond.fieldLink "ChoraleSearch$Score" 35 "ChoraleSearch$Score" "lows" "[I"
def gw_57 : Cond := Cond.fieldLink "ChoraleSearch$Score" 38 "ChoraleSearch$Score" "highs" "[I"
def gw_59 : Cond := Cond.lays "ChoraleSearch$Score" "ChoraleSearch$Score" "placeCount" "I"
def gw_61 : Cond := Cond.lays "ChoraleSearch$Score" "ChoraleSearch$Score" "styleChords" "I"
def gw_63 : Cond := Cond.laysFinal "ChoraleSearch$Score" "ChoraleSearch$Score" "pitches" "[I"
def gw_65 : Cond := Cond.laysFinal "ChoraleSearch$Score" "ChoraleSearch$Score" "figures" "[I"
def gw_67 : Cond := Cond.laysFinal "ChoraleSearch$Score" "ChoraleSearch$Score" "inversions" "[I"
def gw_69 : Cond := Cond.laysFinal "ChoraleSearch$Score" "ChoraleSearch$Score" "fermatas" "[Z"
def gw_71 : Cond := Cond.laysFinal "ChoraleSearch$Score" "ChoraleSearch$Score" "prices" "[I"
def gw_73 : Cond := Cond.laysFinal "ChoraleSearch$Score" "ChoraleSearch$Score" "lows" "[I"
def gw_75 : Cond := Cond.laysFinal "ChoraleSearch$Score" "ChoraleSearch$Score" "highs" "[I"
def gw_78 : Cond := Cond.arrayClass FieldType.int
def gw_79 : Cond := Cond.arrayClass FieldType.boolean
def gw_80 : Cond := Cond.classLink "ChoraleSearch" 16 "ChoraleSearch$Harmony"
def gw_81 : Cond := Cond.instantiable "ChoraleSearch$Harmony" 7
def gw_83 : Cond := Cond.instanceMethod ⟨"ChoraleSearch$Harmony", "<init>", "()V"⟩
def gw_84 : Cond := Cond.code ⟨"ChoraleSearch$Harmony", "<init>", "()V"⟩ prog_4_method_1_code 3 none
def gw_85 : Cond := Cond.methodLink "ChoraleSearch$Harmony" 3 ⟨"java/lang/Object", "<init>", "()V"⟩
def gw_86 : Cond := Cond.methodLink "ChoraleSearch$Harmony" 24 ⟨"ChoraleSearch$Harmony", "grammar", "(II)I"⟩
def gw_87 : Cond := Cond.static ⟨"ChoraleSearch$Harmony", "grammar", "(II)I"⟩
def gw_88 : Cond := Cond.code ⟨"ChoraleSearch$Harmony", "grammar", "(II)I"⟩ prog_4_method_4_code 2 (some .int)
def gw_89 : Cond := Cond.fieldLink "ChoraleSearch$Harmony" 57 "ChoraleSearch$Harmony" "FUNCTIONS" "[I"
def gw_91 : Cond := Cond.methodLink "ChoraleSearch$Harmony" 60 ⟨"ChoraleSearch$Harmony", "fromSubdominant", "(II)I"⟩
def gw_92 : Cond := Cond.static ⟨"ChoraleSearch$Harmony", "fromSubdominant", "(II)I"⟩
def gw_93 : Cond := Cond.code ⟨"ChoraleSearch$Harmony", "fromSubdominant", "(II)I"⟩ prog_4_method_5_code 2 (some .int)
def gw_94 : Cond := Cond.methodLink "ChoraleSearch$Harmony" 63 ⟨"ChoraleSearch$Harmony", "fromDominant", "(II)I"⟩
def gw_95 : Cond := Cond.static ⟨"ChoraleSearch$Harmony", "fromDominant", "(II)I"⟩
def gw_96 : Cond := Cond.code ⟨"ChoraleSearch$Harmony", "fromDominant", "(II)I"⟩ prog_4_method_6_code 2 (some .int)
def gw_97 : Cond := Cond.methodLink "ChoraleSearch$Harmony" 66 ⟨"ChoraleSearch$Harmony", "fromApplied", "(II)I"⟩
def gw_98 : Cond := Cond.static ⟨"ChoraleSearch$Harmony", "fromApplied", "(II)I"⟩
def gw_99 : Cond := Cond.code ⟨"ChoraleSearch$Harmony", "fromApplied", "(II)I"⟩ prog_4_method_7_code 2 (some .int)
def gw_100 : Cond := Cond.methodLink "ChoraleSearch$Harmony" 28 ⟨"ChoraleSearch$Harmony", "tune", "(II)V"⟩
def gw_102 : Cond := Cond.instanceMethod ⟨"ChoraleSearch$Harmony", "tune", "(II)V"⟩
def gw_103 : Cond := Cond.code ⟨"ChoraleSearch$Harmony", "tune", "(II)V"⟩ prog_4_method_2_code 5 none
def gw_104 : Cond := Cond.methodLink "ChoraleSearch$Harmony" 42 ⟨"java/util/Arrays", "fill", "([II)V"⟩
def gw_105 : Cond := Cond.static ⟨"java/util/Arrays", "fill", "([II)V"⟩
def gw_106 : Cond := Cond.code ⟨"java/util/Arrays", "fill", "([II)V"⟩ prog_16_method_103_code 4 none
def gw_107 : Cond := Cond.methodLink "ChoraleSearch$Harmony" 48 ⟨"ChoraleSearch$Harmony", "tuneMember", "(II)V"⟩
def gw_109 : Cond := Cond.instanceMethod ⟨"ChoraleSearch$Harmony", "tuneMember", "(II)V"⟩
def gw_110 : Cond := Cond.code ⟨"ChoraleSearch$Harmony", "tuneMember", "(II)V"⟩ prog_4_method_3_code 6 none
def gw_111 : Cond := Cond.fieldLink "ChoraleSearch$Harmony" 51 "ChoraleSearch$Harmony" "MINOR" "[I"
def gw_113 : Cond := Cond.fieldLink "ChoraleSearch$Harmony" 54 "ChoraleSearch$Harmony" "MAJOR" "[I"
def gw_115 : Cond := Cond.fieldLink "ChoraleSearch$Harmony" 32 "ChoraleSearch$Harmony" "tonic" "I"
def gw_117 : Cond := Cond.fieldLink "ChoraleSearch$Harmony" 36 "ChoraleSearch$Harmony" "minor" "I"
def gw_119 : Cond := Cond.fieldLink "ChoraleSearch$Harmony" 39 "ChoraleSearch$Harmony" "leadingClass" "I"
def gw_122 : Cond := Cond.fieldLink "ChoraleSearch$Harmony" 11 "ChoraleSearch$Harmony" "memberClasses" "[I"
def gw_123 : Cond := Cond.fieldLink "ChoraleSearch$Harmony" 15 "ChoraleSearch$Harmony" "chordsByMember" "[I"
def gw_124 : Cond := Cond.fieldLink "ChoraleSearch$Harmony" 18 "ChoraleSearch$Harmony" "chordsByClass" "[I"
def gw_125 : Cond := Cond.fieldLink "ChoraleSearch$Harmony" 21 "ChoraleSearch$Harmony" "units" "[I"
def gw_126 : Cond := Cond.lays "ChoraleSearch$Harmony" "ChoraleSearch$Harmony" "tonic" "I"
def gw_128 : Cond := Cond.lays "ChoraleSearch$Harmony" "ChoraleSearch$Harmony" "minor" "I"
def gw_130 : Cond := Cond.lays "ChoraleSearch$Harmony" "ChoraleSearch$Harmony" "leadingClass" "I"
def gw_132 : Cond := Cond.laysFinal "ChoraleSearch$Harmony" "ChoraleSearch$Harmony" "memberClasses" "[I"
def gw_134 : Cond := Cond.laysFinal "ChoraleSearch$Harmony" "ChoraleSearch$Harmony" "chordsByMember" "[I"
def gw_136 : Cond := Cond.laysFinal "ChoraleSearch$Harmony" "ChoraleSearch$Harmony" "chordsByClass" "[I"
def gw_138 : Cond := Cond.laysFinal "ChoraleSearch$Harmony" "ChoraleSearch$Harmony" "units" "[I"
def gw_141 : Cond := Cond.classLink "ChoraleSearch" 23 "ChoraleSearch$StateRules"
def gw_142 : Cond := Cond.instantiable "ChoraleSearch$StateRules" 5
def gw_144 : Cond := Cond.instanceMethod ⟨"ChoraleSearch$StateRules", "<init>", "(LChoraleSearch$Score;LChoraleSearch$Harmony;)V"⟩
def gw_145 : Cond := Cond.code ⟨"ChoraleSearch$StateRules", "<init>", "(LChoraleSearch$Score;LChoraleSearch$Harmony;)V"⟩ prog_9_method_1_code 3 none
def gw_146 : Cond := Cond.methodLink "ChoraleSearch$StateRules" 3 ⟨"java/lang/Object", "<init>", "()V"⟩
def gw_147 : Cond := Cond.fieldLink "ChoraleSearch$StateRules" 21 "ChoraleSearch$StateRules" "score" "LChoraleSearch$Score;"
def gw_148 : Cond := Cond.fieldLink "ChoraleSearch$StateRules" 25 "ChoraleSearch$StateRules" "harmony" "LChoraleSearch$Harmony;"
def gw_149 : Cond := Cond.fieldLink "ChoraleSearch$StateRules" 9 "ChoraleSearch$StateRules" "bottoms" "[I"
def gw_150 : Cond := Cond.fieldLink "ChoraleSearch$StateRules" 15 "ChoraleSearch$StateRules" "tops" "[I"
def gw_151 : Cond := Cond.fieldLink "ChoraleSearch$StateRules" 18 "ChoraleSearch$StateRules" "members" "[I"
def gw_152 : Cond := Cond.laysFinal "ChoraleSearch$StateRules" "ChoraleSearch$StateRules" "score" "LChoraleSearch$Score;"
def gw_154 : Cond := Cond.laysFinal "ChoraleSearch$StateRules" "ChoraleSearch$StateRules" "harmony" "LChoraleSearch$Harmony;"
def gw_156 : Cond := Cond.laysFinal "ChoraleSearch$StateRules" "ChoraleSearch$StateRules" "bottoms" "[I"
def gw_158 : Cond := Cond.laysFinal "ChoraleSearch$StateRules" "ChoraleSearch$StateRules" "tops" "[I"
def gw_160 : Cond := Cond.laysFinal "ChoraleSearch$StateRules" "ChoraleSearch$StateRules" "members" "[I"
def gw_163 : Cond := Cond.classLink "ChoraleSearch" 28 "ChoraleSearch$StepRules"
def gw_164 : Cond := Cond.instantiable "ChoraleSearch$StepRules" 5
def gw_166 : Cond := Cond.instanceMethod ⟨"ChoraleSearch$StepRules", "<init>", "(LChoraleSearch$Harmony;)V"⟩
def gw_167 : Cond := Cond.code ⟨"ChoraleSearch$StepRules", "<init>", "(LChoraleSearch$Harmony;)V"⟩ prog_10_method_1_code 2 none
def gw_168 : Cond := Cond.methodLink "ChoraleSearch$StepRules" 3 ⟨"java/lang/Object", "<init>", "()V"⟩
def gw_169 : Cond := Cond.fieldLink "ChoraleSearch$StepRules" 18 "ChoraleSearch$StepRules" "harmony" "LChoraleSearch$Harmony;"
def gw_170 : Cond := Cond.fieldLink "ChoraleSearch$StepRules" 51 "ChoraleSearch$StepRules" "fromChord" "I"
def gw_171 : Cond := Cond.fieldLink "ChoraleSearch$StepRules" 55 "ChoraleSearch$StepRules" "toChord" "I"
def gw_172 : Cond := Cond.fieldLink "ChoraleSearch$StepRules" 9 "ChoraleSearch$StepRules" "before" "[I"
def gw_173 : Cond := Cond.fieldLink "ChoraleSearch$StepRules" 15 "ChoraleSearch$StepRules" "after" "[I"
def gw_174 : Cond := Cond.laysFinal "ChoraleSearch$StepRules" "ChoraleSearch$StepRules" "harmony" "LChoraleSearch$Harmony;"
def gw_176 : Cond := Cond.lays "ChoraleSearch$StepRules" "ChoraleSearch$StepRules" "fromChord" "I"
def gw_178 : Cond := Cond.lays "ChoraleSearch$StepRules" "ChoraleSearch$StepRules" "toChord" "I"
def gw_180 : Cond := Cond.laysFinal "ChoraleSearch$StepRules" "ChoraleSearch$StepRules" "before" "[I"
def gw_182 : Cond := Cond.laysFinal "ChoraleSearch$StepRules" "ChoraleSearch$StepRules" "after" "[I"
def gw_185 : Cond := Cond.classLink "ChoraleSearch" 33 "ChoraleSearch$Table"
def gw_186 : Cond := Cond.instantiable "ChoraleSearch$Table" 4
def gw_188 : Cond := Cond.instanceMethod ⟨"ChoraleSearch$Table", "<init>", "(LChoraleSearch$Score;LChoraleSearch$StateRules;)V"⟩
def gw_189 : Cond := Cond.code ⟨"ChoraleSearch$Table", "<init>", "(LChoraleSearch$Score;LChoraleSearch$StateRules;)V"⟩ prog_11_method_1_code 4 none
def gw_190 : Cond := Cond.methodLink "ChoraleSearch$Table" 3 ⟨"java/lang/Object", "<init>", "()V"⟩
def gw_191 : Cond := Cond.classLink "ChoraleSearch$Table" 9 "ChoraleSearch$Layer"
def gw_193 : Cond := Cond.instantiable "ChoraleSearch$Layer" 3
def gw_195 : Cond := Cond.instanceMethod ⟨"ChoraleSearch$Layer", "<init>", "()V"⟩
def gw_196 : Cond := Cond.code ⟨"ChoraleSearch$Layer", "<init>", "()V"⟩ prog_5_method_1_code 1 none
def gw_197 : Cond := Cond.methodLink "ChoraleSearch$Layer" 3 ⟨"java/lang/Object", "<init>", "()V"⟩
def gw_198 : Cond := Cond.fieldLink "ChoraleSearch$Layer" 18 "ChoraleSearch$Layer" "size" "I"
def gw_203 : Cond := Cond.fieldLink "ChoraleSearch$Layer" 9 "ChoraleSearch$Layer" "codes" "[I"
def gw_206 : Cond := Cond.fieldLink "ChoraleSearch$Layer" 15 "ChoraleSearch$Layer" "marks" "[I"
def gw_208 : Cond := Cond.lays "ChoraleSearch$Layer" "ChoraleSearch$Layer" "size" "I"
def gw_210 : Cond := Cond.laysFinal "ChoraleSearch$Layer" "ChoraleSearch$Layer" "codes" "[I"
def gw_212 : Cond := Cond.laysFinal "ChoraleSearch$Layer" "ChoraleSearch$Layer" "marks" "[I"
def gw_215 : Cond := Cond.fieldLink "ChoraleSearch$Table" 17 "ChoraleSearch$Table" "score" "LChoraleSearch$Score;"
def gw_216 : Cond := Cond.fieldLink "ChoraleSearch$Table" 21 "ChoraleSearch$Table" "rules" "LChoraleSearch$StateRules;"
def gw_217 : Cond := Cond.fieldLink "ChoraleSearch$Table" 11 "ChoraleSearch$Table" "layers" "[LChoraleSearch$Layer;"
def gw_221 : Cond := Cond.fieldLink "ChoraleSearch$Table" 26 "ChoraleSearch$Table" "fresh" "Z"
def gw_222 : Cond := Cond.laysFinal "ChoraleSearch$Table" "ChoraleSearch$Table" "score" "LChoraleSearch$Score;"
def gw_224 : Cond := Cond.laysFinal "ChoraleSearch$Table" "ChoraleSearch$Table" "rules" "LChoraleSearch$StateRules;"
def gw_226 : Cond := Cond.laysFinal "ChoraleSearch$Table" "ChoraleSearch$Table" "layers" "[LChoraleSearch$Layer;"
def gw_228 : Cond := Cond.lays "ChoraleSearch$Table" "ChoraleSearch$Table" "fresh" "Z"
def gw_231 : Cond := Cond.classLink "ChoraleSearch" 42 "ChoraleSearch$Reach"
def gw_232 : Cond := Cond.instantiable "ChoraleSearch$Reach" 5
def gw_234 : Cond := Cond.instanceMethod ⟨"ChoraleSearch$Reach", "<init>", "(LChoraleSearch$Score;LChoraleSearch$Table;LChoraleSearch$StateRules;LChoraleSearch$StepRules;)V"⟩
def gw_235 : Cond := Cond.code ⟨"ChoraleSearch$Reach", "<init>", "(LChoraleSearch$Score;LChoraleSearch$Table;LChoraleSearch$StateRules;LChoraleSearch$StepRules;)V"⟩ prog_6_method_1_code 5 none
def gw_236 : Cond := Cond.methodLink "ChoraleSearch$Reach" 3 ⟨"java/lang/Object", "<init>", "()V"⟩
def gw_237 : Cond := Cond.classLink "ChoraleSearch$Reach" 9 "ChoraleSearch$Layer"
def gw_239 : Cond := Cond.fieldLink "ChoraleSearch$Reach" 18 "ChoraleSearch$Reach" "score" "LChoraleSearch$Score;"
def gw_240 : Cond := Cond.fieldLink "ChoraleSearch$Reach" 22 "ChoraleSearch$Reach" "table" "LChoraleSearch$Table;"
def gw_241 : Cond := Cond.fieldLink "ChoraleSearch$Reach" 26 "ChoraleSearch$Reach" "stateRules" "LChoraleSearch$StateRules;"
def gw_242 : Cond := Cond.fieldLink "ChoraleSearch$Reach" 30 "ChoraleSearch$Reach" "stepRules" "LChoraleSearch$StepRules;"
def gw_243 : Cond := Cond.fieldLink "ChoraleSearch$Reach" 12 "ChoraleSearch$Reach" "trial" "LChoraleSearch$Layer;"
def gw_244 : Cond := Cond.laysFinal "ChoraleSearch$Reach" "ChoraleSearch$Reach" "score" "LChoraleSearch$Score;"
def gw_246 : Cond := Cond.laysFinal "ChoraleSearch$Reach" "ChoraleSearch$Reach" "table" "LChoraleSearch$Table;"
def gw_248 : Cond := Cond.laysFinal "ChoraleSearch$Reach" "ChoraleSearch$Reach" "stateRules" "LChoraleSearch$StateRules;"
def gw_250 : Cond := Cond.laysFinal "ChoraleSearch$Reach" "ChoraleSearch$Reach" "stepRules" "LChoraleSearch$StepRules;"
def gw_252 : Cond := Cond.laysFinal "ChoraleSearch$Reach" "ChoraleSearch$Reach" "trial" "LChoraleSearch$Layer;"
def gw_255 : Cond := Cond.classLink "ChoraleSearch" 51 "ChoraleSearch$RowSearch"
def gw_256 : Cond := Cond.instantiable "ChoraleSearch$RowSearch" 15
def gw_257 : Cond := Cond.classLink "ChoraleSearch" 53 "ChoraleSearch$Costs"
def gw_258 : Cond := Cond.instantiable "ChoraleSearch$Costs" 2
def gw_260 : Cond := Cond.instanceMethod ⟨"ChoraleSearch$Costs", "<init>", "(LChoraleSearch$Score;LChoraleSearch$Harmony;)V"⟩
def gw_261 : Cond := Cond.code ⟨"ChoraleSearch$Costs", "<init>", "(LChoraleSearch$Score;LChoraleSearch$Harmony;)V"⟩ prog_3_method_1_code 3 none
def gw_262 : Cond := Cond.methodLink "ChoraleSearch$Costs" 3 ⟨"java/lang/Object", "<init>", "()V"⟩
def gw_263 : Cond := Cond.fieldLink "ChoraleSearch$Costs" 9 "ChoraleSearch$Costs" "score" "LChoraleSearch$Score;"
def gw_264 : Cond := Cond.fieldLink "ChoraleSearch$Costs" 15 "ChoraleSearch$Costs" "harmony" "LChoraleSearch$Harmony;"
def gw_265 : Cond := Cond.laysFinal "ChoraleSearch$Costs" "ChoraleSearch$Costs" "score" "LChoraleSearch$Score;"
def gw_267 : Cond := Cond.laysFinal "ChoraleSearch$Costs" "ChoraleSearch$Costs" "harmony" "LChoraleSearch$Harmony;"
def gw_271 : Cond := Cond.instanceMethod ⟨"ChoraleSearch$RowSearch", "<init>", "(LChoraleSearch$Score;LChoraleSearch$Table;LChoraleSearch$StepRules;LChoraleSearch$Costs;)V"⟩
def gw_272 : Cond := Cond.code ⟨"ChoraleSearch$RowSearch", "<init>", "(LChoraleSearch$Score;LChoraleSearch$Table;LChoraleSearch$StepRules;LChoraleSearch$Costs;)V"⟩ prog_7_method_1_code 5 none
def gw_273 : Cond := Cond.methodLink "ChoraleSearch$RowSearch" 3 ⟨"java/lang/Object", "<init>", "()V"⟩
def gw_274 : Cond := Cond.classLink "ChoraleSearch$RowSearch" 9 "[[I"
def gw_276 : Cond := Cond.fieldLink "ChoraleSearch$RowSearch" 38 "ChoraleSearch$RowSearch" "score" "LChoraleSearch$Score;"
def gw_277 : Cond := Cond.fieldLink "ChoraleSearch$RowSearch" 42 "ChoraleSearch$RowSearch" "table" "LChoraleSearch$Table;"
def gw_278 : Cond := Cond.fieldLink "ChoraleSearch$RowSearch" 46 "ChoraleSearch$RowSearch" "steps" "LChoraleSearch$StepRules;"
def gw_279 : Cond := Cond.fieldLink "ChoraleSearch$RowSearch" 50 "ChoraleSearch$RowSearch" "costs" "LChoraleSearch$Costs;"
def gw_280 : Cond := Cond.fieldLink "ChoraleSearch$RowSearch" 11 "ChoraleSearch$RowSearch" "links" "[[I"
def gw_281 : Cond := Cond.fieldLink "ChoraleSearch$RowSearch" 16 "ChoraleSearch$RowSearch" "sums" "[I"
def gw_282 : Cond := Cond.fieldLink "ChoraleSearch$RowSearch" 20 "ChoraleSearch$RowSearch" "laterSums" "[I"
def gw_283 : Cond := Cond.fieldLink "ChoraleSearch$RowSearch" 23 "ChoraleSearch$RowSearch" "alive" "[I"
def gw_284 : Cond := Cond.fieldLink "ChoraleSearch$RowSearch" 126 "ChoraleSearch$RowSearch" "aliveCount" "I"
def gw_285 : Cond := Cond.fieldLink "ChoraleSearch$RowSearch" 26 "ChoraleSearch$RowSearch" "beamStates" "[I"
def gw_286 : Cond := Cond.fieldLink "ChoraleSearch$RowSearch" 29 "ChoraleSearch$RowSearch" "rowLinks" "[I"
def gw_287 : Cond := Cond.fieldLink "ChoraleSearch$RowSearch" 32 "ChoraleSearch$RowSearch" "rowSums" "[I"
def gw_289 : Cond := Cond.fieldLink "ChoraleSearch$RowSearch" 35 "ChoraleSearch$RowSearch" "rowCodes" "[I"
def gw_290 : Cond := Cond.fieldLink "ChoraleSearch$RowSearch" 54 "ChoraleSearch$RowSearch" "rowCount" "I"
def gw_292 : Cond := Cond.fieldLink "ChoraleSearch$RowSearch" 58 "ChoraleSearch$RowSearch" "leftOut" "Z"
def gw_294 : Cond := Cond.laysFinal "ChoraleSearch$RowSearch" "ChoraleSearch$RowSearch" "score" "LChoraleSearch$Score;"
def gw_296 : Cond := Cond.laysFinal "ChoraleSearch$RowSearch" "ChoraleSearch$RowSearch" "table" "LChoraleSearch$Table;"
def gw_298 : Cond := Cond.laysFinal "ChoraleSearch$RowSearch" "ChoraleSearch$RowSearch" "steps" "LChoraleSearch$StepRules;"
def gw_300 : Cond := Cond.laysFinal "ChoraleSearch$RowSearch" "ChoraleSearch$RowSearch" "costs" "LChoraleSearch$Costs;"
def gw_302 : Cond := Cond.laysFinal "ChoraleSearch$RowSearch" "ChoraleSearch$RowSearch" "links" "[[I"
def gw_304 : Cond := Cond.lays "ChoraleSearch$RowSearch" "ChoraleSearch$RowSearch" "sums" "[I"
def gw_306 : Cond := Cond.lays "ChoraleSearch$RowSearch" "ChoraleSearch$RowSearch" "laterSums" "[I"
def gw_308 : Cond := Cond.laysFinal "ChoraleSearch$RowSearch" "ChoraleSearch$RowSearch" "alive" "[I"
def gw_310 : Cond := Cond.lays "ChoraleSearch$RowSearch" "ChoraleSearch$RowSearch" "aliveCount" "I"
def gw_312 : Cond := Cond.laysFinal "ChoraleSearch$RowSearch" "ChoraleSearch$RowSearch" "beamStates" "[I"
def gw_314 : Cond := Cond.laysFinal "ChoraleSearch$RowSearch" "ChoraleSearch$RowSearch" "rowLinks" "[I"
def gw_316 : Cond := Cond.laysFinal "ChoraleSearch$RowSearch" "ChoraleSearch$RowSearch" "rowSums" "[I"
def gw_318 : Cond := Cond.laysFinal "ChoraleSearch$RowSearch" "ChoraleSearch$RowSearch" "rowCodes" "[I"
def gw_320 : Cond := Cond.lays "ChoraleSearch$RowSearch" "ChoraleSearch$RowSearch" "rowCount" "I"
def gw_322 : Cond := Cond.lays "ChoraleSearch$RowSearch" "ChoraleSearch$RowSearch" "leftOut" "Z"
def gw_325 : Cond := Cond.fieldLink "ChoraleSearch" 10 "ChoraleSearch" "score" "LChoraleSearch$Score;"
def gw_326 : Cond := Cond.fieldLink "ChoraleSearch" 19 "ChoraleSearch" "harmony" "LChoraleSearch$Harmony;"
def gw_327 : Cond := Cond.fieldLink "ChoraleSearch" 38 "ChoraleSearch" "table" "LChoraleSearch$Table;"
def gw_328 : Cond := Cond.fieldLink "ChoraleSearch" 47 "ChoraleSearch" "reach" "LChoraleSearch$Reach;"
def gw_329 : Cond := Cond.fieldLink "ChoraleSearch" 59 "ChoraleSearch" "search" "LChoraleSearch$RowSearch;"
def gw_330 : Cond := Cond.laysFinal "ChoraleSearch" "ChoraleSearch" "score" "LChoraleSearch$Score;"
def gw_332 : Cond := Cond.laysFinal "ChoraleSearch" "ChoraleSearch" "harmony" "LChoraleSearch$Harmony;"
def gw_334 : Cond := Cond.laysFinal "ChoraleSearch" "ChoraleSearch" "table" "LChoraleSearch$Table;"
def gw_336 : Cond := Cond.laysFinal "ChoraleSearch" "ChoraleSearch" "reach" "LChoraleSearch$Reach;"
def gw_338 : Cond := Cond.laysFinal "ChoraleSearch" "ChoraleSearch" "search" "LChoraleSearch$RowSearch;"
def gw_341 : Cond := Cond.methodLink "ChoraleSearchLaw" 13 ⟨"ChoraleSearch", "key", "(II)I"⟩
def gw_342 : Cond := Cond.instanceMethod ⟨"ChoraleSearch", "key", "(II)I"⟩
def gw_343 : Cond := Cond.selects "ChoraleSearch" ⟨"ChoraleSearch", "key", "(II)I"⟩ ⟨"ChoraleSearch", "key", "(II)I"⟩
def gw_344 : Cond := Cond.code ⟨"ChoraleSearch", "key", "(II)I"⟩ prog_1_method_2_code 3 (some .int)
def gw_346 : Cond := Cond.methodLink "ChoraleSearch" 67 ⟨"ChoraleSearch", "forgetFound", "()V"⟩
def gw_348 : Cond := Cond.instanceMethod ⟨"ChoraleSearch", "forgetFound", "()V"⟩
def gw_349 : Cond := Cond.code ⟨"ChoraleSearch", "forgetFound", "()V"⟩ prog_1_method_29_code 1 none
def gw_352 : Cond := Cond.instanceMethod ⟨"ChoraleSearch$RowSearch", "forget", "()V"⟩
def gw_353 : Cond := Cond.code ⟨"ChoraleSearch$RowSearch", "forget", "()V"⟩ prog_7_method_2_code 1 none
def gw_356 : Cond := Cond.instanceMethod ⟨"ChoraleSearch$Table", "spoil", "()V"⟩
def gw_357 : Cond := Cond.code ⟨"ChoraleSearch$Table", "spoil", "()V"⟩ prog_11_method_2_code 1 none
def gw_358 : Cond := Cond.methodLink "ChoraleSearchLaw" 18 ⟨"ChoraleSearch", "places", "(I)I"⟩
def gw_359 : Cond := Cond.instanceMethod ⟨"ChoraleSearch", "places", "(I)I"⟩
def gw_360 : Cond := Cond.selects "ChoraleSearch" ⟨"ChoraleSearch", "places", "(I)I"⟩ ⟨"ChoraleSearch", "places", "(I)I"⟩
def gw_361 : Cond := Cond.code ⟨"ChoraleSearch", "places", "(I)I"⟩ prog_1_method_3_code 3 (some .int)
def gw_363 : Cond := Cond.methodLink "ChoraleSearchLaw" 23 ⟨"ChoraleSearch", "given", "(III)I"⟩
def gw_364 : Cond := Cond.instanceMethod ⟨"ChoraleSearch", "given", "(III)I"⟩
def gw_365 : Cond := Cond.selects "ChoraleSearch" ⟨"ChoraleSearch", "given", "(III)I"⟩ ⟨"ChoraleSearch", "given", "(III)I"⟩
def gw_366 : Cond := Cond.code ⟨"ChoraleSearch", "given", "(III)I"⟩ prog_1_method_4_code 4 (some .int)
def gw_367 : Cond := Cond.methodLink "ChoraleSearch" 78 ⟨"ChoraleSearch", "isVoice", "(I)Z"⟩
def gw_368 : Cond := Cond.static ⟨"ChoraleSearch", "isVoice", "(I)Z"⟩
def gw_369 : Cond := Cond.code ⟨"ChoraleSearch", "isVoice", "(I)Z"⟩ prog_1_method_23_code 1 (some .boolean)
def gw_370 : Cond := Cond.methodLink "ChoraleSearch" 82 ⟨"ChoraleSearch", "isPlace", "(I)Z"⟩
def gw_372 : Cond := Cond.instanceMethod ⟨"ChoraleSearch", "isPlace", "(I)Z"⟩
def gw_373 : Cond := Cond.code ⟨"ChoraleSearch", "isPlace", "(I)Z"⟩ prog_1_method_26_code 2 (some .boolean)
def gw_374 : Cond := Cond.methodLink "ChoraleSearch" 85 ⟨"ChoraleSearch", "isPitch", "(I)Z"⟩
def gw_375 : Cond := Cond.static ⟨"ChoraleSearch", "isPitch", "(I)Z"⟩
def gw_376 : Cond := Cond.code ⟨"ChoraleSearch", "isPitch", "(I)Z"⟩ prog_1_method_25_code 1 (some .boolean)
def gw_377 : Cond := Cond.methodLink "ChoraleSearch" 88 ⟨"ChoraleSearch", "setPitch", "(III)I"⟩
def gw_379 : Cond := Cond.instanceMethod ⟨"ChoraleSearch", "setPitch", "(III)I"⟩
def gw_380 : Cond := Cond.code ⟨"ChoraleSearch", "setPitch", "(III)I"⟩ prog_1_method_28_code 6 (some .int)
def gw_381 : Cond := Cond.methodLink "ChoraleSearchLaw" 28 ⟨"ChoraleSearch", "free", "(II)I"⟩
def gw_382 : Cond := Cond.instanceMethod ⟨"ChoraleSearch", "free", "(II)I"⟩
def gw_383 : Cond := Cond.selects "ChoraleSearch" ⟨"ChoraleSearch", "free", "(II)I"⟩ ⟨"ChoraleSearch", "free", "(II)I"⟩
def gw_384 : Cond := Cond.code ⟨"ChoraleSearch", "free", "(II)I"⟩ prog_1_method_5_code 3 (some .int)
def gw_385 : Cond := Cond.methodLink "ChoraleSearchLaw" 32 ⟨"ChoraleSearch", "figure", "(II)I"⟩
def gw_386 : Cond := Cond.instanceMethod ⟨"ChoraleSearch", "figure", "(II)I"⟩
def gw_387 : Cond := Cond.selects "ChoraleSearch" ⟨"ChoraleSearch", "figure", "(II)I"⟩ ⟨"ChoraleSearch", "figure", "(II)I"⟩
def gw_388 : Cond := Cond.code ⟨"ChoraleSearch", "figure", "(II)I"⟩ prog_1_method_6_code 4 (some .int)
def gw_389 : Cond := Cond.methodLink "ChoraleSearchLaw" 36 ⟨"ChoraleSearch", "inversion", "(II)I"⟩
def gw_390 : Cond := Cond.instanceMethod ⟨"ChoraleSearch", "inversion", "(II)I"⟩
def gw_391 : Cond := Cond.selects "ChoraleSearch" ⟨"ChoraleSearch", "inversion", "(II)I"⟩ ⟨"ChoraleSearch", "inversion", "(II)I"⟩
def gw_392 : Cond := Cond.code ⟨"ChoraleSearch", "inversion", "(II)I"⟩ prog_1_method_7_code 4 (some .int)
def gw_393 : Cond := Cond.methodLink "ChoraleSearchLaw" 40 ⟨"ChoraleSearch", "fermata", "(IZ)I"⟩
def gw_394 : Cond := Cond.instanceMethod ⟨"ChoraleSearch", "fermata", "(IZ)I"⟩
def gw_395 : Cond := Cond.selects "ChoraleSearch" ⟨"ChoraleSearch", "fermata", "(IZ)I"⟩ ⟨"ChoraleSearch", "fermata", "(IZ)I"⟩
def gw_396 : Cond := Cond.code ⟨"ChoraleSearch", "fermata", "(IZ)I"⟩ prog_1_method_8_code 4 (some .int)
def gw_397 : Cond := Cond.methodLink "ChoraleSearchLaw" 45 ⟨"ChoraleSearch", "style", "(IZ)I"⟩
def gw_398 : Cond := Cond.instanceMethod ⟨"ChoraleSearch", "style", "(IZ)I"⟩
def gw_399 : Cond := Cond.selects "ChoraleSearch" ⟨"ChoraleSearch", "style", "(IZ)I"⟩ ⟨"ChoraleSearch", "style", "(IZ)I"⟩
def gw_400 : Cond := Cond.code ⟨"ChoraleSearch", "style", "(IZ)I"⟩ prog_1_method_9_code 5 (some .int)
def gw_401 : Cond := Cond.methodLink "ChoraleSearch" 103 ⟨"ChoraleSearch", "isChord", "(I)Z"⟩
def gw_402 : Cond := Cond.static ⟨"ChoraleSearch", "isChord", "(I)Z"⟩
def gw_403 : Cond := Cond.code ⟨"ChoraleSearch", "isChord", "(I)Z"⟩ prog_1_method_24_code 1 (some .boolean)
def gw_404 : Cond := Cond.methodLink "ChoraleSearchLaw" 49 ⟨"ChoraleSearch", "cost", "(II)I"⟩
def gw_405 : Cond := Cond.instanceMethod ⟨"ChoraleSearch", "cost", "(II)I"⟩
def gw_406 : Cond := Cond.selects "ChoraleSearch" ⟨"ChoraleSearch", "cost", "(II)I"⟩ ⟨"ChoraleSearch", "cost", "(II)I"⟩
def gw_407 : Cond := Cond.code ⟨"ChoraleSearch", "cost", "(II)I"⟩ prog_1_method_10_code 4 (some .int)
def gw_408 : Cond := Cond.methodLink "ChoraleSearchLaw" 53 ⟨"ChoraleSearch", "range", "(III)I"⟩
def gw_409 : Cond := Cond.instanceMethod ⟨"ChoraleSearch", "range", "(III)I"⟩
def gw_410 : Cond := Cond.selects "ChoraleSearch" ⟨"ChoraleSearch", "range", "(III)I"⟩ ⟨"ChoraleSearch", "range", "(III)I"⟩
def gw_411 : Cond := Cond.code ⟨"ChoraleSearch", "range", "(III)I"⟩ prog_1_method_11_code 4 (some .int)
def gw_412 : Cond := Cond.methodLink "ChoraleSearchLaw" 57 ⟨"ChoraleSearch", "solve", "(I)I"⟩
def gw_413 : Cond := Cond.instanceMethod ⟨"ChoraleSearch", "solve", "(I)I"⟩
def gw_414 : Cond := Cond.selects "ChoraleSearch" ⟨"ChoraleSearch", "solve", "(I)I"⟩ ⟨"ChoraleSearch", "solve", "(I)I"⟩
def gw_415 : Cond := Cond.code ⟨"ChoraleSearch", "solve", "(I)I"⟩ prog_1_method_12_code 2 (some .int)
def gw_418 : Cond := Cond.instanceMethod ⟨"ChoraleSearch$Table", "prepare", "()V"⟩
def gw_419 : Cond := Cond.code ⟨"ChoraleSearch$Table", "prepare", "()V"⟩ prog_11_method_3_code 2 none
def gw_422 : Cond := Cond.instanceMethod ⟨"ChoraleSearch$StateRules", "fill", "(LChoraleSearch$Layer;I)V"⟩
def gw_423 : Cond := Cond.code ⟨"ChoraleSearch$StateRules", "fill", "(LChoraleSearch$Layer;I)V"⟩ prog_9_method_2_code 13 none
def gw_424 : Cond := Cond.methodLink "ChoraleSearch$StateRules" 35 ⟨"ChoraleSearch$StateRules", "setLimits", "(I)V"⟩
def gw_426 : Cond := Cond.instanceMethod ⟨"ChoraleSearch$StateRules", "setLimits", "(I)V"⟩
def gw_427 : Cond := Cond.code ⟨"ChoraleSearch$StateRules", "setLimits", "(I)V"⟩ prog_9_method_3_code 3 none
def gw_430 : Cond := Cond.instanceMethod ⟨"ChoraleSearch$Score", "lowAt", "(II)I"⟩
def gw_431 : Cond := Cond.code ⟨"ChoraleSearch$Score", "lowAt", "(II)I"⟩ prog_8_method_4_code 4 (some .int)
def gw_432 : Cond := Cond.methodLink "ChoraleSearch$Score" 45 ⟨"java/lang/Math", "max", "(II)I"⟩
def gw_433 : Cond := Cond.static ⟨"java/lang/Math", "max", "(II)I"⟩
def gw_434 : Cond := Cond.code ⟨"java/lang/Math", "max", "(II)I"⟩ prog_15_method_65_code 2 (some .int)
def gw_437 : Cond := Cond.instanceMethod ⟨"ChoraleSearch$Score", "highAt", "(II)I"⟩
def gw_438 : Cond := Cond.code ⟨"ChoraleSearch$Score", "highAt", "(II)I"⟩ prog_8_method_5_code 4 (some .int)
def gw_439 : Cond := Cond.methodLink "ChoraleSearch$Score" 51 ⟨"java/lang/Math", "min", "(II)I"⟩
def gw_440 : Cond := Cond.static ⟨"java/lang/Math", "min", "(II)I"⟩
def gw_441 : Cond := Cond.code ⟨"java/lang/Math", "min", "(II)I"⟩ prog_15_method_69_code 2 (some .int)
def gw_444 : Cond := Cond.instanceMethod ⟨"ChoraleSearch$Score", "figuredChords", "(I)I"⟩
def gw_445 : Cond := Cond.code ⟨"ChoraleSearch$Score", "figuredChords", "(I)I"⟩ prog_8_method_7_code 3 (some .int)
def gw_446 : Cond := Cond.methodLink "ChoraleSearch$StateRules" 45 ⟨"ChoraleSearch$StateRules", "chordsByRule6", "(I)I"⟩
def gw_448 : Cond := Cond.instanceMethod ⟨"ChoraleSearch$StateRules", "chordsByRule6", "(I)I"⟩
def gw_449 : Cond := Cond.code ⟨"ChoraleSearch$StateRules", "chordsByRule6", "(I)I"⟩ prog_9_method_6_code 2 (some .int)
def gw_452 : Cond := Cond.instanceMethod ⟨"ChoraleSearch$Score", "isLast", "(I)Z"⟩
def gw_453 : Cond := Cond.code ⟨"ChoraleSearch$Score", "isLast", "(I)Z"⟩ prog_8_method_6_code 2 (some .boolean)
def gw_456 : Cond := Cond.instanceMethod ⟨"ChoraleSearch$Harmony", "chordsWith", "(I)I"⟩
def gw_457 : Cond := Cond.code ⟨"ChoraleSearch$Harmony", "chordsWith", "(I)I"⟩ prog_4_method_11_code 2 (some .int)
def gw_458 : Cond := Cond.methodLink "ChoraleSearch$StateRules" 53 ⟨"java/lang/Math", "min", "(II)I"⟩
def gw_459 : Cond := Cond.fieldLink "ChoraleSearch$StateRules" 59 "ChoraleSearch$StateRules" "WIDEST_BELOW" "[I"
def gw_461 : Cond := Cond.methodLink "ChoraleSearch$StateRules" 62 ⟨"java/lang/Math", "max", "(II)I"⟩
def gw_463 : Cond := Cond.static ⟨"ChoraleSearch$Code", "withVoice", "(II)I"⟩
def gw_464 : Cond := Cond.code ⟨"ChoraleSearch$Code", "withVoice", "(II)I"⟩ prog_2_method_2_code 2 (some .int)
def gw_465 : Cond := Cond.methodLink "ChoraleSearch$StateRules" 70 ⟨"ChoraleSearch$StateRules", "fillBass", "(LChoraleSearch$Layer;IIII)V"⟩
def gw_467 : Cond := Cond.instanceMethod ⟨"ChoraleSearch$StateRules", "fillBass", "(LChoraleSearch$Layer;IIII)V"⟩
def gw_468 : Cond := Cond.code ⟨"ChoraleSearch$StateRules", "fillBass", "(LChoraleSearch$Layer;IIII)V"⟩ prog_9_method_4_code 9 none
def gw_469 : Cond := Cond.methodLink "ChoraleSearch$StateRules" 80 ⟨"ChoraleSearch$StateRules", "bassChords", "(II)I"⟩
def gw_471 : Cond := Cond.instanceMethod ⟨"ChoraleSearch$StateRules", "bassChords", "(II)I"⟩
def gw_472 : Cond := Cond.code ⟨"ChoraleSearch$StateRules", "bassChords", "(II)I"⟩ prog_9_method_7_code 5 (some .int)
def gw_475 : Cond := Cond.instanceMethod ⟨"ChoraleSearch$Harmony", "chordsWithMember", "(II)I"⟩
def gw_476 : Cond := Cond.code ⟨"ChoraleSearch$Harmony", "chordsWithMember", "(II)I"⟩ prog_4_method_10_code 3 (some .int)
def gw_477 : Cond := Cond.methodLink "ChoraleSearch$StateRules" 83 ⟨"ChoraleSearch$StateRules", "addComplete", "(LChoraleSearch$Layer;II)V"⟩
def gw_479 : Cond := Cond.instanceMethod ⟨"ChoraleSearch$StateRules", "addComplete", "(LChoraleSearch$Layer;II)V"⟩
def gw_480 : Cond := Cond.code ⟨"ChoraleSearch$StateRules", "addComplete", "(LChoraleSearch$Layer;II)V"⟩ prog_9_method_5_code 6 none
def gw_482 : Cond := Cond.static ⟨"ChoraleSearch$Code", "withChord", "(II)I"⟩
def gw_483 : Cond := Cond.code ⟨"ChoraleSearch$Code", "withChord", "(II)I"⟩ prog_2_method_3_code 2 (some .int)
def gw_484 : Cond := Cond.methodLink "ChoraleSearch$StateRules" 90 ⟨"ChoraleSearch$StateRules", "keepsRules4And5", "(II)Z"⟩
def gw_486 : Cond := Cond.instanceMethod ⟨"ChoraleSearch$StateRules", "keepsRules4And5", "(II)Z"⟩
def gw_487 : Cond := Cond.code ⟨"ChoraleSearch$StateRules", "keepsRules4And5", "(II)Z"⟩ prog_9_method_8_code 4 (some .boolean)
def gw_490 : Cond := Cond.instanceMethod ⟨"ChoraleSearch$Harmony", "memberClass", "(II)I"⟩
def gw_491 : Cond := Cond.code ⟨"ChoraleSearch$Harmony", "memberClass", "(II)I"⟩ prog_4_method_9_code 3 (some .int)
def gw_493 : Cond := Cond.static ⟨"ChoraleSearch$Code", "timesClass", "(II)I"⟩
def gw_494 : Cond := Cond.code ⟨"ChoraleSearch$Code", "timesClass", "(II)I"⟩ prog_2_method_7_code 5 (some .int)
def gw_497 : Cond := Cond.instanceMethod ⟨"ChoraleSearch$Harmony", "guardsLeading", "(I)Z"⟩
def gw_498 : Cond := Cond.code ⟨"ChoraleSearch$Harmony", "guardsLeading", "(I)Z"⟩ prog_4_method_12_code 2 (some .boolean)
def gw_501 : Cond := Cond.instanceMethod ⟨"ChoraleSearch$Layer", "add", "(I)V"⟩
def gw_502 : Cond := Cond.code ⟨"ChoraleSearch$Layer", "add", "(I)V"⟩ prog_5_method_2_code 2 none
def gw_505 : Cond := Cond.instanceMethod ⟨"ChoraleSearch$Table", "overflows", "()Z"⟩
def gw_506 : Cond := Cond.code ⟨"ChoraleSearch$Table", "overflows", "()Z"⟩ prog_11_method_4_code 2 (some .boolean)
def gw_509 : Cond := Cond.instanceMethod ⟨"ChoraleSearch$RowSearch", "run", "(I)V"⟩
def gw_510 : Cond := Cond.code ⟨"ChoraleSearch$RowSearch", "run", "(I)V"⟩ prog_7_method_4_code 4 none
def gw_511 : Cond := Cond.methodLink "ChoraleSearch$RowSearch" 62 ⟨"ChoraleSearch$RowSearch", "forget", "()V"⟩
def gw_512 : Cond := Cond.methodLink "ChoraleSearch$RowSearch" 70 ⟨"ChoraleSearch$RowSearch", "findRests", "(I)V"⟩
def gw_514 : Cond := Cond.instanceMethod ⟨"ChoraleSearch$RowSearch", "findRests", "(I)V"⟩
def gw_515 : Cond := Cond.code ⟨"ChoraleSearch$RowSearch", "findRests", "(I)V"⟩ prog_7_method_5_code 6 none
def gw_516 : Cond := Cond.methodLink "ChoraleSearch$RowSearch" 93 ⟨"java/util/Arrays", "fill", "([II)V"⟩
def gw_519 : Cond := Cond.instanceMethod ⟨"ChoraleSearch$Layer", "kept", "()I"⟩
def gw_520 : Cond := Cond.code ⟨"ChoraleSearch$Layer", "kept", "()I"⟩ prog_5_method_3_code 1 (some .int)
def gw_521 : Cond := Cond.methodLink "ChoraleSearch$Layer" 22 ⟨"java/lang/Math", "min", "(II)I"⟩
def gw_524 : Cond := Cond.instanceMethod ⟨"ChoraleSearch$Costs", "ofState", "(I)I"⟩
def gw_525 : Cond := Cond.code ⟨"ChoraleSearch$Costs", "ofState", "(I)I"⟩ prog_3_method_2_code 4 (some .int)
def gw_526 : Cond := Cond.methodLink "ChoraleSearch$Costs" 25 ⟨"ChoraleSearch$Costs", "inversionUnits", "(I)I"⟩
def gw_528 : Cond := Cond.instanceMethod ⟨"ChoraleSearch$Costs", "inversionUnits", "(I)I"⟩
def gw_529 : Cond := Cond.code ⟨"ChoraleSearch$Costs", "inversionUnits", "(I)I"⟩ prog_3_method_3_code 4 (some .int)
def gw_531 : Cond := Cond.static ⟨"ChoraleSearch$Code", "pitchOf", "(II)I"⟩
def gw_532 : Cond := Cond.code ⟨"ChoraleSearch$Code", "pitchOf", "(II)I"⟩ prog_2_method_5_code 2 (some .int)
def gw_534 : Cond := Cond.static ⟨"ChoraleSearch$Code", "chordOf", "(I)I"⟩
def gw_535 : Cond := Cond.code ⟨"ChoraleSearch$Code", "chordOf", "(I)I"⟩ prog_2_method_4_code 1 (some .int)
def gw_537 : Cond := Cond.fieldLink "ChoraleSearch$Costs" 49 "ChoraleSearch$Costs" "INVERSION_UNITS" "[I"
def gw_539 : Cond := Cond.methodLink "ChoraleSearch$Costs" 29 ⟨"ChoraleSearch$Costs", "unisons", "(I)I"⟩
def gw_540 : Cond := Cond.static ⟨"ChoraleSearch$Costs", "unisons", "(I)I"⟩
def gw_541 : Cond := Cond.code ⟨"ChoraleSearch$Costs", "unisons", "(I)I"⟩ prog_3_method_4_code 3 (some .int)
def gw_544 : Cond := Cond.instanceMethod ⟨"ChoraleSearch$Harmony", "timesMember", "(II)I"⟩
def gw_545 : Cond := Cond.code ⟨"ChoraleSearch$Harmony", "timesMember", "(II)I"⟩ prog_4_method_14_code 4 (some .int)
def gw_547 : Cond := Cond.methodLink "ChoraleSearch$Harmony" 80 ⟨"ChoraleSearch$Harmony", "memberClass", "(II)I"⟩
def gw_550 : Cond := Cond.methodLink "ChoraleSearch$RowSearch" 118 ⟨"ChoraleSearch$RowSearch", "insert", "([I[IIII)Z"⟩
def gw_551 : Cond := Cond.static ⟨"ChoraleSearch$RowSearch", "insert", "([I[IIII)Z"⟩
def gw_552 : Cond := Cond.code ⟨"ChoraleSearch$RowSearch", "insert", "([I[IIII)Z"⟩ prog_7_method_8_code 6 (some .boolean)
def gw_553 : Cond := Cond.methodLink "ChoraleSearch$RowSearch" 122 ⟨"ChoraleSearch$RowSearch", "linkOnward", "(III)V"⟩
def gw_555 : Cond := Cond.instanceMethod ⟨"ChoraleSearch$RowSearch", "linkOnward", "(III)V"⟩
def gw_556 : Cond := Cond.code ⟨"ChoraleSearch$RowSearch", "linkOnward", "(III)V"⟩ prog_7_method_6_code 9 none
def gw_559 : Cond := Cond.instanceMethod ⟨"ChoraleSearch$StepRules", "allow", "(II)Z"⟩
def gw_560 : Cond := Cond.code ⟨"ChoraleSearch$StepRules", "allow", "(II)Z"⟩ prog_10_method_2_code 3 (some .boolean)
def gw_561 : Cond := Cond.methodLink "ChoraleSearch$StepRules" 22 ⟨"ChoraleSearch$StepRules", "lookAt", "(II)V"⟩
def gw_563 : Cond := Cond.instanceMethod ⟨"ChoraleSearch$StepRules", "lookAt", "(II)V"⟩
def gw_564 : Cond := Cond.code ⟨"ChoraleSearch$StepRules", "lookAt", "(II)V"⟩ prog_10_method_4_code 3 none
def gw_567 : Cond := Cond.static ⟨"ChoraleSearch$Code", "unpack", "(I[I)V"⟩
def gw_568 : Cond := Cond.code ⟨"ChoraleSearch$Code", "unpack", "(I[I)V"⟩ prog_2_method_6_code 4 none
def gw_569 : Cond := Cond.methodLink "ChoraleSearch$StepRules" 26 ⟨"ChoraleSearch$StepRules", "breaks7", "()Z"⟩
def gw_571 : Cond := Cond.instanceMethod ⟨"ChoraleSearch$StepRules", "breaks7", "()Z"⟩
def gw_572 : Cond := Cond.code ⟨"ChoraleSearch$StepRules", "breaks7", "()Z"⟩ prog_10_method_5_code 1 (some .boolean)
def gw_575 : Cond := Cond.instanceMethod ⟨"ChoraleSearch$Harmony", "unitsBetween", "(II)I"⟩
def gw_576 : Cond := Cond.code ⟨"ChoraleSearch$Harmony", "unitsBetween", "(II)I"⟩ prog_4_method_8_code 3 (some .int)
def gw_577 : Cond := Cond.methodLink "ChoraleSearch$StepRules" 30 ⟨"ChoraleSearch$StepRules", "breaks10", "()Z"⟩
def gw_579 : Cond := Cond.instanceMethod ⟨"ChoraleSearch$StepRules", "breaks10", "()Z"⟩
def gw_580 : Cond := Cond.code ⟨"ChoraleSearch$StepRules", "breaks10", "()Z"⟩ prog_10_method_8_code 2 (some .boolean)
def gw_581 : Cond := Cond.methodLink "ChoraleSearch$StepRules" 33 ⟨"ChoraleSearch$StepRules", "breaks9", "()Z"⟩
def gw_583 : Cond := Cond.instanceMethod ⟨"ChoraleSearch$StepRules", "breaks9", "()Z"⟩
def gw_584 : Cond := Cond.code ⟨"ChoraleSearch$StepRules", "breaks9", "()Z"⟩ prog_10_method_7_code 3 (some .boolean)
def gw_585 : Cond := Cond.methodLink "ChoraleSearch$StepRules" 68 ⟨"java/lang/Math", "abs", "(I)I"⟩
def gw_586 : Cond := Cond.static ⟨"java/lang/Math", "abs", "(I)I"⟩
def gw_587 : Cond := Cond.code ⟨"java/lang/Math", "abs", "(I)I"⟩ prog_15_method_59_code 1 (some .int)
def gw_588 : Cond := Cond.methodLink "ChoraleSearch$StepRules" 36 ⟨"ChoraleSearch$StepRules", "breaks8", "()Z"⟩
def gw_590 : Cond := Cond.instanceMethod ⟨"ChoraleSearch$StepRules", "breaks8", "()Z"⟩
def gw_591 : Cond := Cond.code ⟨"ChoraleSearch$StepRules", "breaks8", "()Z"⟩ prog_10_method_6_code 4 (some .boolean)
def gw_592 : Cond := Cond.methodLink "ChoraleSearch$StepRules" 39 ⟨"ChoraleSearch$StepRules", "breaks11", "()Z"⟩
def gw_594 : Cond := Cond.instanceMethod ⟨"ChoraleSearch$StepRules", "breaks11", "()Z"⟩
def gw_595 : Cond := Cond.code ⟨"ChoraleSearch$StepRules", "breaks11", "()Z"⟩ prog_10_method_9_code 1 (some .boolean)
def gw_596 : Cond := Cond.methodLink "ChoraleSearch$StepRules" 73 ⟨"ChoraleSearch$StepRules", "leadsAstray", "(I)Z"⟩
def gw_598 : Cond := Cond.instanceMethod ⟨"ChoraleSearch$StepRules", "leadsAstray", "(I)Z"⟩
def gw_599 : Cond := Cond.code ⟨"ChoraleSearch$StepRules", "leadsAstray", "(I)Z"⟩ prog_10_method_10_code 2 (some .boolean)
def gw_600 : Cond := Cond.methodLink "ChoraleSearch$StepRules" 42 ⟨"ChoraleSearch$StepRules", "breaks12", "()Z"⟩
def gw_602 : Cond := Cond.instanceMethod ⟨"ChoraleSearch$StepRules", "breaks12", "()Z"⟩
def gw_603 : Cond := Cond.code ⟨"ChoraleSearch$StepRules", "breaks12", "()Z"⟩ prog_10_method_11_code 4 (some .boolean)
def gw_607 : Cond := Cond.instanceMethod ⟨"ChoraleSearch$Costs", "ofStep", "(II)I"⟩
def gw_608 : Cond := Cond.code ⟨"ChoraleSearch$Costs", "ofStep", "(II)I"⟩ prog_3_method_5_code 7 (some .int)
def gw_610 : Cond := Cond.methodLink "ChoraleSearch$Costs" 55 ⟨"ChoraleSearch$Costs", "move", "(III)I"⟩
def gw_611 : Cond := Cond.static ⟨"ChoraleSearch$Costs", "move", "(III)I"⟩
def gw_612 : Cond := Cond.code ⟨"ChoraleSearch$Costs", "move", "(III)I"⟩ prog_3_method_6_code 3 (some .int)
def gw_613 : Cond := Cond.methodLink "ChoraleSearch$Costs" 59 ⟨"java/lang/Math", "abs", "(I)I"⟩
def gw_614 : Cond := Cond.methodLink "ChoraleSearch$Costs" 64 ⟨"java/lang/Math", "max", "(II)I"⟩
def gw_615 : Cond := Cond.methodLink "ChoraleSearch$Costs" 67 ⟨"ChoraleSearch$Costs", "isHidden", "(III)Z"⟩
def gw_616 : Cond := Cond.static ⟨"ChoraleSearch$Costs", "isHidden", "(III)Z"⟩
def gw_617 : Cond := Cond.code ⟨"ChoraleSearch$Costs", "isHidden", "(III)Z"⟩ prog_3_method_7_code 4 (some .boolean)
def gw_618 : Cond := Cond.methodLink "ChoraleSearch$RowSearch" 139 ⟨"ChoraleSearch$RowSearch", "insertRests", "(IIII)V"⟩
def gw_620 : Cond := Cond.instanceMethod ⟨"ChoraleSearch$RowSearch", "insertRests", "(IIII)V"⟩
def gw_621 : Cond := Cond.code ⟨"ChoraleSearch$RowSearch", "insertRests", "(IIII)V"⟩ prog_7_method_7_code 7 none
def gw_622 : Cond := Cond.methodLink "ChoraleSearch$RowSearch" 74 ⟨"ChoraleSearch$RowSearch", "narrow", "(II)V"⟩
def gw_624 : Cond := Cond.instanceMethod ⟨"ChoraleSearch$RowSearch", "narrow", "(II)V"⟩
def gw_625 : Cond := Cond.code ⟨"ChoraleSearch$RowSearch", "narrow", "(II)V"⟩ prog_7_method_9_code 6 none
def gw_626 : Cond := Cond.methodLink "ChoraleSearch$RowSearch" 143 ⟨"ChoraleSearch$RowSearch", "sortIn", "(II)V"⟩
def gw_628 : Cond := Cond.instanceMethod ⟨"ChoraleSearch$RowSearch", "sortIn", "(II)V"⟩
def gw_629 : Cond := Cond.code ⟨"ChoraleSearch$RowSearch", "sortIn", "(II)V"⟩ prog_7_method_11_code 4 none
def gw_630 : Cond := Cond.methodLink "ChoraleSearch$RowSearch" 146 ⟨"ChoraleSearch$RowSearch", "dropWorst", "([III)V"⟩
def gw_632 : Cond := Cond.instanceMethod ⟨"ChoraleSearch$RowSearch", "dropWorst", "([III)V"⟩
def gw_633 : Cond := Cond.code ⟨"ChoraleSearch$RowSearch", "dropWorst", "([III)V"⟩ prog_7_method_10_code 5 none
def gw_634 : Cond := Cond.methodLink "ChoraleSearch$RowSearch" 78 ⟨"ChoraleSearch$RowSearch", "listAlive", "(I)V"⟩
def gw_636 : Cond := Cond.instanceMethod ⟨"ChoraleSearch$RowSearch", "listAlive", "(I)V"⟩
def gw_637 : Cond := Cond.code ⟨"ChoraleSearch$RowSearch", "listAlive", "(I)V"⟩ prog_7_method_12_code 3 none
def gw_638 : Cond := Cond.methodLink "ChoraleSearch$RowSearch" 81 ⟨"ChoraleSearch$RowSearch", "gatherRows", "()V"⟩
def gw_640 : Cond := Cond.instanceMethod ⟨"ChoraleSearch$RowSearch", "gatherRows", "()V"⟩
def gw_641 : Cond := Cond.code ⟨"ChoraleSearch$RowSearch", "gatherRows", "()V"⟩ prog_7_method_13_code 4 none
def gw_642 : Cond := Cond.methodLink "ChoraleSearch$RowSearch" 84 ⟨"ChoraleSearch$RowSearch", "traceRows", "()V"⟩
def gw_644 : Cond := Cond.instanceMethod ⟨"ChoraleSearch$RowSearch", "traceRows", "()V"⟩
def gw_645 : Cond := Cond.code ⟨"ChoraleSearch$RowSearch", "traceRows", "()V"⟩ prog_7_method_14_code 4 none
def gw_646 : Cond := Cond.methodLink "ChoraleSearchLaw" 61 ⟨"ChoraleSearch", "note", "(III)I"⟩
def gw_647 : Cond := Cond.instanceMethod ⟨"ChoraleSearch", "note", "(III)I"⟩
def gw_648 : Cond := Cond.selects "ChoraleSearch" ⟨"ChoraleSearch", "note", "(III)I"⟩ ⟨"ChoraleSearch", "note", "(III)I"⟩
def gw_649 : Cond := Cond.code ⟨"ChoraleSearch", "note", "(III)I"⟩ prog_1_method_13_code 4 (some .int)
def gw_650 : Cond := Cond.methodLink "ChoraleSearch" 131 ⟨"ChoraleSearch", "isRow", "(I)Z"⟩
def gw_652 : Cond := Cond.instanceMethod ⟨"ChoraleSearch", "isRow", "(I)Z"⟩
def gw_653 : Cond := Cond.code ⟨"ChoraleSearch", "isRow", "(I)Z"⟩ prog_1_method_27_code 2 (some .boolean)
def gw_656 : Cond := Cond.instanceMethod ⟨"ChoraleSearch$RowSearch", "codeAt", "(II)I"⟩
def gw_657 : Cond := Cond.code ⟨"ChoraleSearch$RowSearch", "codeAt", "(II)I"⟩ prog_7_method_3_code 3 (some .int)
def gw_659 : Cond := Cond.methodLink "ChoraleSearchLaw" 65 ⟨"ChoraleSearch", "chord", "(II)I"⟩
def gw_660 : Cond := Cond.instanceMethod ⟨"ChoraleSearch", "chord", "(II)I"⟩
def gw_661 : Cond := Cond.selects "ChoraleSearch" ⟨"ChoraleSearch", "chord", "(II)I"⟩ ⟨"ChoraleSearch", "chord", "(II)I"⟩
def gw_662 : Cond := Cond.code ⟨"ChoraleSearch", "chord", "(II)I"⟩ prog_1_method_14_code 3 (some .int)
def gw_664 : Cond := Cond.methodLink "ChoraleSearchLaw" 69 ⟨"ChoraleSearch", "sum", "(I)I"⟩
def gw_665 : Cond := Cond.instanceMethod ⟨"ChoraleSearch", "sum", "(I)I"⟩
def gw_666 : Cond := Cond.selects "ChoraleSearch" ⟨"ChoraleSearch", "sum", "(I)I"⟩ ⟨"ChoraleSearch", "sum", "(I)I"⟩
def gw_667 : Cond := Cond.code ⟨"ChoraleSearch", "sum", "(I)I"⟩ prog_1_method_15_code 2 (some .int)
def gw_668 : Cond := Cond.methodLink "ChoraleSearchLaw" 73 ⟨"ChoraleSearch", "least", "()I"⟩
def gw_669 : Cond := Cond.instanceMethod ⟨"ChoraleSearch", "least", "()I"⟩
def gw_670 : Cond := Cond.selects "ChoraleSearch" ⟨"ChoraleSearch", "least", "()I"⟩ ⟨"ChoraleSearch", "least", "()I"⟩
def gw_671 : Cond := Cond.code ⟨"ChoraleSearch", "least", "()I"⟩ prog_1_method_16_code 1 (some .int)
def gw_672 : Cond := Cond.methodLink "ChoraleSearchLaw" 78 ⟨"ChoraleSearch", "states", "(I)I"⟩
def gw_673 : Cond := Cond.instanceMethod ⟨"ChoraleSearch", "states", "(I)I"⟩
def gw_674 : Cond := Cond.selects "ChoraleSearch" ⟨"ChoraleSearch", "states", "(I)I"⟩ ⟨"ChoraleSearch", "states", "(I)I"⟩
def gw_675 : Cond := Cond.code ⟨"ChoraleSearch", "states", "(I)I"⟩ prog_1_method_17_code 2 (some .int)
def gw_676 : Cond := Cond.methodLink "ChoraleSearchLaw" 82 ⟨"ChoraleSearch", "blocked", "(I)I"⟩
def gw_677 : Cond := Cond.instanceMethod ⟨"ChoraleSearch", "blocked", "(I)I"⟩
def gw_678 : Cond := Cond.selects "ChoraleSearch" ⟨"ChoraleSearch", "blocked", "(I)I"⟩ ⟨"ChoraleSearch", "blocked", "(I)I"⟩
def gw_679 : Cond := Cond.code ⟨"ChoraleSearch", "blocked", "(I)I"⟩ prog_1_method_18_code 3 (some .int)
def gw_682 : Cond := Cond.instanceMethod ⟨"ChoraleSearch$Reach", "firstUnreached", "()I"⟩
def gw_683 : Cond := Cond.code ⟨"ChoraleSearch$Reach", "firstUnreached", "()I"⟩ prog_6_method_2_code 4 (some .int)
def gw_684 : Cond := Cond.methodLink "ChoraleSearch$Reach" 40 ⟨"ChoraleSearch$Reach", "markReached", "(I)Z"⟩
def gw_686 : Cond := Cond.instanceMethod ⟨"ChoraleSearch$Reach", "markReached", "(I)Z"⟩
def gw_687 : Cond := Cond.code ⟨"ChoraleSearch$Reach", "markReached", "(I)Z"⟩ prog_6_method_3_code 6 (some .boolean)
def gw_689 : Cond := Cond.methodLink "ChoraleSearch$Reach" 58 ⟨"ChoraleSearch$Reach", "isEntered", "(II)Z"⟩
def gw_691 : Cond := Cond.instanceMethod ⟨"ChoraleSearch$Reach", "isEntered", "(II)Z"⟩
def gw_692 : Cond := Cond.code ⟨"ChoraleSearch$Reach", "isEntered", "(II)Z"⟩ prog_6_method_4_code 5 (some .boolean)
def gw_695 : Cond := Cond.instanceMethod ⟨"ChoraleSearch$Layer", "isMarked", "(II)Z"⟩
def gw_696 : Cond := Cond.code ⟨"ChoraleSearch$Layer", "isMarked", "(II)Z"⟩ prog_5_method_4_code 3 (some .boolean)
def gw_700 : Cond := Cond.instanceMethod ⟨"ChoraleSearch$Reach", "barringRules", "(I)I"⟩
def gw_701 : Cond := Cond.code ⟨"ChoraleSearch$Reach", "barringRules", "(I)I"⟩ prog_6_method_7_code 6 (some .int)
def gw_704 : Cond := Cond.instanceMethod ⟨"ChoraleSearch$StateRules", "barring", "(I)I"⟩
def gw_705 : Cond := Cond.code ⟨"ChoraleSearch$StateRules", "barring", "(I)I"⟩ prog_9_method_9_code 5 (some .int)
def gw_706 : Cond := Cond.methodLink "ChoraleSearch$StateRules" 123 ⟨"ChoraleSearch$StateRules", "surveyVoices", "(II)Z"⟩
def gw_708 : Cond := Cond.instanceMethod ⟨"ChoraleSearch$StateRules", "surveyVoices", "(II)Z"⟩
def gw_709 : Cond := Cond.code ⟨"ChoraleSearch$StateRules", "surveyVoices", "(II)Z"⟩ prog_9_method_10_code 4 (some .boolean)
def gw_710 : Cond := Cond.methodLink "ChoraleSearch$StateRules" 139 ⟨"ChoraleSearch$StateRules", "surveyVoice", "(III)V"⟩
def gw_712 : Cond := Cond.instanceMethod ⟨"ChoraleSearch$StateRules", "surveyVoice", "(III)V"⟩
def gw_713 : Cond := Cond.code ⟨"ChoraleSearch$StateRules", "surveyVoice", "(III)V"⟩ prog_9_method_11_code 7 none
def gw_714 : Cond := Cond.methodLink "ChoraleSearch$StateRules" 143 ⟨"ChoraleSearch$StateRules", "memberAt", "(II)I"⟩
def gw_716 : Cond := Cond.instanceMethod ⟨"ChoraleSearch$StateRules", "memberAt", "(II)I"⟩
def gw_717 : Cond := Cond.code ⟨"ChoraleSearch$StateRules", "memberAt", "(II)I"⟩ prog_9_method_12_code 4 (some .int)
def gw_718 : Cond := Cond.methodLink "ChoraleSearch$StateRules" 146 ⟨"ChoraleSearch$StateRules", "maySound", "(III)Z"⟩
def gw_720 : Cond := Cond.instanceMethod ⟨"ChoraleSearch$StateRules", "maySound", "(III)Z"⟩
def gw_721 : Cond := Cond.code ⟨"ChoraleSearch$StateRules", "maySound", "(III)Z"⟩ prog_9_method_13_code 4 (some .boolean)
def gw_722 : Cond := Cond.methodLink "ChoraleSearch$StateRules" 126 ⟨"ChoraleSearch$StateRules", "someBreak3", "()Z"⟩
def gw_724 : Cond := Cond.instanceMethod ⟨"ChoraleSearch$StateRules", "someBreak3", "()Z"⟩
def gw_725 : Cond := Cond.code ⟨"ChoraleSearch$StateRules", "someBreak3", "()Z"⟩ prog_9_method_14_code 2 (some .boolean)
def gw_726 : Cond := Cond.methodLink "ChoraleSearch$StateRules" 130 ⟨"ChoraleSearch$StateRules", "someBreak4", "(I)Z"⟩
def gw_728 : Cond := Cond.instanceMethod ⟨"ChoraleSearch$StateRules", "someBreak4", "(I)Z"⟩
def gw_729 : Cond := Cond.code ⟨"ChoraleSearch$StateRules", "someBreak4", "(I)Z"⟩ prog_9_method_15_code 2 (some .boolean)
def gw_730 : Cond := Cond.methodLink "ChoraleSearch$StateRules" 150 ⟨"ChoraleSearch$StateRules", "canMiss", "(I)Z"⟩
def gw_732 : Cond := Cond.instanceMethod ⟨"ChoraleSearch$StateRules", "canMiss", "(I)Z"⟩
def gw_733 : Cond := Cond.code ⟨"ChoraleSearch$StateRules", "canMiss", "(I)Z"⟩ prog_9_method_16_code 3 (some .boolean)
def gw_734 : Cond := Cond.methodLink "ChoraleSearch$StateRules" 133 ⟨"ChoraleSearch$StateRules", "someBreak5", "(I)Z"⟩
def gw_736 : Cond := Cond.instanceMethod ⟨"ChoraleSearch$StateRules", "someBreak5", "(I)Z"⟩
def gw_737 : Cond := Cond.code ⟨"ChoraleSearch$StateRules", "someBreak5", "(I)Z"⟩ prog_9_method_17_code 3 (some .boolean)
def gw_738 : Cond := Cond.methodLink "ChoraleSearch$StateRules" 153 ⟨"ChoraleSearch$StateRules", "canDouble", "(I)Z"⟩
def gw_740 : Cond := Cond.instanceMethod ⟨"ChoraleSearch$StateRules", "canDouble", "(I)Z"⟩
def gw_741 : Cond := Cond.code ⟨"ChoraleSearch$StateRules", "canDouble", "(I)Z"⟩ prog_9_method_18_code 4 (some .boolean)
def gw_742 : Cond := Cond.methodLink "ChoraleSearch$StateRules" 136 ⟨"ChoraleSearch$StateRules", "someBreak6", "(II)Z"⟩
def gw_744 : Cond := Cond.instanceMethod ⟨"ChoraleSearch$StateRules", "someBreak6", "(II)Z"⟩
def gw_745 : Cond := Cond.code ⟨"ChoraleSearch$StateRules", "someBreak6", "(II)Z"⟩ prog_9_method_19_code 3 (some .boolean)
def gw_746 : Cond := Cond.methodLink "ChoraleSearch$Reach" 88 ⟨"ChoraleSearch$Reach", "barringSteps", "(ILChoraleSearch$Layer;)I"⟩
def gw_748 : Cond := Cond.instanceMethod ⟨"ChoraleSearch$Reach", "barringSteps", "(ILChoraleSearch$Layer;)I"⟩
def gw_749 : Cond := Cond.code ⟨"ChoraleSearch$Reach", "barringSteps", "(ILChoraleSearch$Layer;)I"⟩ prog_6_method_8_code 5 (some .int)
def gw_752 : Cond := Cond.instanceMethod ⟨"ChoraleSearch$StepRules", "barring", "(II)I"⟩
def gw_753 : Cond := Cond.code ⟨"ChoraleSearch$StepRules", "barring", "(II)I"⟩ prog_10_method_3_code 3 (some .int)
def gw_754 : Cond := Cond.methodLink "ChoraleSearchLaw" 86 ⟨"ChoraleSearch", "repair", "()I"⟩
def gw_755 : Cond := Cond.instanceMethod ⟨"ChoraleSearch", "repair", "()I"⟩
def gw_756 : Cond := Cond.selects "ChoraleSearch" ⟨"ChoraleSearch", "repair", "()I"⟩ ⟨"ChoraleSearch", "repair", "()I"⟩
def gw_757 : Cond := Cond.code ⟨"ChoraleSearch", "repair", "()I"⟩ prog_1_method_19_code 1 (some .int)
def gw_760 : Cond := Cond.instanceMethod ⟨"ChoraleSearch$Reach", "noteToGiveWay", "()I"⟩
def gw_761 : Cond := Cond.code ⟨"ChoraleSearch$Reach", "noteToGiveWay", "()I"⟩ prog_6_method_9_code 4 (some .int)
def gw_762 : Cond := Cond.methodLink "ChoraleSearch$Reach" 95 ⟨"ChoraleSearch$Reach", "markGoingOn", "()V"⟩
def gw_764 : Cond := Cond.instanceMethod ⟨"ChoraleSearch$Reach", "markGoingOn", "()V"⟩
def gw_765 : Cond := Cond.code ⟨"ChoraleSearch$Reach", "markGoingOn", "()V"⟩ prog_6_method_5_code 4 none
def gw_766 : Cond := Cond.methodLink "ChoraleSearch$Reach" 73 ⟨"ChoraleSearch$Reach", "goesOn", "(II)Z"⟩
def gw_768 : Cond := Cond.instanceMethod ⟨"ChoraleSearch$Reach", "goesOn", "(II)Z"⟩
def gw_769 : Cond := Cond.code ⟨"ChoraleSearch$Reach", "goesOn", "(II)Z"⟩ prog_6_method_6_code 5 (some .boolean)
def gw_772 : Cond := Cond.methodLink "ChoraleSearch$Reach" 105 ⟨"ChoraleSearch$Reach", "trialJoins", "(I)Z"⟩
def gw_774 : Cond := Cond.instanceMethod ⟨"ChoraleSearch$Reach", "trialJoins", "(I)Z"⟩
def gw_775 : Cond := Cond.code ⟨"ChoraleSearch$Reach", "trialJoins", "(I)Z"⟩ prog_6_method_10_code 3 (some .boolean)
def gw_776 : Cond := Cond.methodLink "ChoraleSearchLaw" 90 ⟨"ChoraleSearch", "passing", "(II)I"⟩
def gw_777 : Cond := Cond.instanceMethod ⟨"ChoraleSearch", "passing", "(II)I"⟩
def gw_778 : Cond := Cond.selects "ChoraleSearch" ⟨"ChoraleSearch", "passing", "(II)I"⟩ ⟨"ChoraleSearch", "passing", "(II)I"⟩
def gw_779 : Cond := Cond.code ⟨"ChoraleSearch", "passing", "(II)I"⟩ prog_1_method_20_code 7 (some .int)
def gw_780 : Cond := Cond.methodLink "ChoraleSearch" 173 ⟨"java/lang/Math", "abs", "(I)I"⟩
def gw_781 : Cond := Cond.methodLink "ChoraleSearch" 178 ⟨"java/lang/Math", "min", "(II)I"⟩
def gw_784 : Cond := Cond.instanceMethod ⟨"ChoraleSearch$Harmony", "inScale", "(I)Z"⟩
def gw_785 : Cond := Cond.code ⟨"ChoraleSearch$Harmony", "inScale", "(I)Z"⟩ prog_4_method_13_code 4 (some .boolean)
def gw_786 : Cond := Cond.methodLink "ChoraleSearch$Harmony" 69 ⟨"java/lang/Math", "floorMod", "(II)I"⟩
def gw_787 : Cond := Cond.static ⟨"java/lang/Math", "floorMod", "(II)I"⟩
def gw_788 : Cond := Cond.code ⟨"java/lang/Math", "floorMod", "(II)I"⟩ prog_15_method_50_code 3 (some .int)
def gw_789 : Cond := Cond.methodLink "ChoraleSearchLaw" 94 ⟨"ChoraleSearch", "count", "(I)I"⟩
def gw_790 : Cond := Cond.instanceMethod ⟨"ChoraleSearch", "count", "(I)I"⟩
def gw_791 : Cond := Cond.selects "ChoraleSearch" ⟨"ChoraleSearch", "count", "(I)I"⟩ ⟨"ChoraleSearch", "count", "(I)I"⟩
def gw_792 : Cond := Cond.code ⟨"ChoraleSearch", "count", "(I)I"⟩ prog_1_method_21_code 2 (some .int)
def gw_795 : Cond := Cond.instanceMethod ⟨"ChoraleSearch$Score", "givenNotes", "()I"⟩
def gw_796 : Cond := Cond.code ⟨"ChoraleSearch$Score", "givenNotes", "()I"⟩ prog_8_method_3_code 6 (some .int)
def gw_797 : Cond := Cond.methodLink "ChoraleSearch" 193 ⟨"java/lang/Integer", "bitCount", "(I)I"⟩
def gw_798 : Cond := Cond.static ⟨"java/lang/Integer", "bitCount", "(I)I"⟩
def gw_799 : Cond := Cond.code ⟨"java/lang/Integer", "bitCount", "(I)I"⟩ prog_14_method_49_code 1 (some .int)
def gw_800 : Cond := Cond.constant "java/lang/Integer" 265 (1431655765 : Int32)
def gw_801 : Cond := Cond.constant "java/lang/Integer" 266 (858993459 : Int32)
def gw_802 : Cond := Cond.constant "java/lang/Integer" 267 (252645135 : Int32)
def gw_803 : Cond := Cond.methodLink "ChoraleSearchLaw" 98 ⟨"ChoraleSearch", "member", "(II)I"⟩
def gw_804 : Cond := Cond.instanceMethod ⟨"ChoraleSearch", "member", "(II)I"⟩
def gw_805 : Cond := Cond.selects "ChoraleSearch" ⟨"ChoraleSearch", "member", "(II)I"⟩ ⟨"ChoraleSearch", "member", "(II)I"⟩
def gw_806 : Cond := Cond.code ⟨"ChoraleSearch", "member", "(II)I"⟩ prog_1_method_22_code 3 (some .int)
def gw_808 : Cond := Cond.classLink "ChoraleSearchLaw" 10 "ChoraleSearchModel"
def gw_809 : Cond := Cond.instantiable "ChoraleSearchModel" 36
def gw_810 : Cond := Cond.methodLink "ChoraleSearchLaw" 12 ⟨"ChoraleSearchModel", "<init>", "()V"⟩
def gw_811 : Cond := Cond.instanceMethod ⟨"ChoraleSearchModel", "<init>", "()V"⟩
def gw_812 : Cond := Cond.code ⟨"ChoraleSearchModel", "<init>", "()V"⟩ prog_13_method_3_code 2 none
def gw_813 : Cond := Cond.methodLink "ChoraleSearchModel" 7 ⟨"java/lang/Object", "<init>", "()V"⟩
def gw_814 : Cond := Cond.fieldLink "ChoraleSearchModel" 1 "ChoraleSearchModel" "thrown" "I"
def gw_815 : Cond := Cond.fieldLink "ChoraleSearchModel" 13 "ChoraleSearchModel" "major" "[I"
def gw_816 : Cond := Cond.fieldLink "ChoraleSearchModel" 17 "ChoraleSearchModel" "minorOnes" "[I"
def gw_817 : Cond := Cond.fieldLink "ChoraleSearchModel" 20 "ChoraleSearchModel" "scaleMajor" "[I"
def gw_818 : Cond := Cond.fieldLink "ChoraleSearchModel" 23 "ChoraleSearchModel" "scaleMinor" "[I"
def gw_819 : Cond := Cond.fieldLink "ChoraleSearchModel" 106 "ChoraleSearchModel" "tonic" "I"
def gw_820 : Cond := Cond.fieldLink "ChoraleSearchModel" 102 "ChoraleSearchModel" "isMinor" "Z"
def gw_821 : Cond := Cond.fieldLink "ChoraleSearchModel" 26 "ChoraleSearchModel" "places" "I"
def gw_822 : Cond := Cond.fieldLink "ChoraleSearchModel" 29 "ChoraleSearchModel" "given" "[I"
def gw_823 : Cond := Cond.fieldLink "ChoraleSearchModel" 32 "ChoraleSearchModel" "figure" "[I"
def gw_824 : Cond := Cond.fieldLink "ChoraleSearchModel" 35 "ChoraleSearchModel" "inversion" "[I"
def gw_825 : Cond := Cond.fieldLink "ChoraleSearchModel" 38 "ChoraleSearchModel" "fermata" "[Z"
def gw_826 : Cond := Cond.fieldLink "ChoraleSearchModel" 42 "ChoraleSearchModel" "style" "[Z"
def gw_827 : Cond := Cond.fieldLink "ChoraleSearchModel" 45 "ChoraleSearchModel" "cost" "[I"
def gw_828 : Cond := Cond.fieldLink "ChoraleSearchModel" 48 "ChoraleSearchModel" "low" "[I"
def gw_829 : Cond := Cond.fieldLink "ChoraleSearchModel" 51 "ChoraleSearchModel" "high" "[I"
def gw_830 : Cond := Cond.fieldLink "ChoraleSearchModel" 54 "ChoraleSearchModel" "pitch" "[I"
def gw_831 : Cond := Cond.fieldLink "ChoraleSearchModel" 57 "ChoraleSearchModel" "chordOf" "[I"
def gw_832 : Cond := Cond.fieldLink "ChoraleSearchModel" 60 "ChoraleSearchModel" "stateCost" "[I"
def gw_833 : Cond := Cond.fieldLink "ChoraleSearchModel" 63 "ChoraleSearchModel" "many" "[I"
def gw_834 : Cond := Cond.fieldLink "ChoraleSearchModel" 66 "ChoraleSearchModel" "waySum" "[I"
def gw_835 : Cond := Cond.fieldLink "ChoraleSearchModel" 69 "ChoraleSearchModel" "wayState" "[I"
def gw_836 : Cond := Cond.fieldLink "ChoraleSearchModel" 72 "ChoraleSearchModel" "wayRank" "[I"
def gw_837 : Cond := Cond.fieldLink "ChoraleSearchModel" 75 "ChoraleSearchModel" "ways" "[I"
def gw_838 : Cond := Cond.fieldLink "ChoraleSearchModel" 78 "ChoraleSearchModel" "isKept" "[Z"
def gw_839 : Cond := Cond.fieldLink "ChoraleSearchModel" 81 "ChoraleSearchModel" "isCome" "[Z"
def gw_840 : Cond := Cond.fieldLink "ChoraleSearchModel" 123 "ChoraleSearchModel" "rows" "I"
def gw_841 : Cond := Cond.fieldLink "ChoraleSearchModel" 84 "ChoraleSearchModel" "rowPitch" "[I"
def gw_842 : Cond := Cond.fieldLink "ChoraleSearchModel" 87 "ChoraleSearchModel" "rowChord" "[I"
def gw_843 : Cond := Cond.fieldLink "ChoraleSearchModel" 90 "ChoraleSearchModel" "rowSum" "[I"
def gw_844 : Cond := Cond.fieldLink "ChoraleSearchModel" 217 "ChoraleSearchModel" "isSure" "Z"
def gw_845 : Cond := Cond.fieldLink "ChoraleSearchModel" 93 "ChoraleSearchModel" "now" "[I"
def gw_846 : Cond := Cond.fieldLink "ChoraleSearchModel" 149 "ChoraleSearchModel" "barred" "I"
def gw_847 : Cond := Cond.fieldLink "ChoraleSearchModel" 96 "ChoraleSearchModel" "topState" "[I"
def gw_848 : Cond := Cond.fieldLink "ChoraleSearchModel" 99 "ChoraleSearchModel" "topRank" "[I"
def gw_849 : Cond := Cond.fieldLink "ChoraleSearchModel" 226 "ChoraleSearchModel" "stepBars" "I"
def gw_850 : Cond := Cond.lays "ChoraleSearchModel" "ChoraleSearchModel" "thrown" "I"
def gw_852 : Cond := Cond.laysFinal "ChoraleSearchModel" "ChoraleSearchModel" "major" "[I"
def gw_854 : Cond := Cond.laysFinal "ChoraleSearchModel" "ChoraleSearchModel" "minorOnes" "[I"
def gw_856 : Cond := Cond.laysFinal "ChoraleSearchModel" "ChoraleSearchModel" "scaleMajor" "[I"
def gw_858 : Cond := Cond.laysFinal "ChoraleSearchModel" "ChoraleSearchModel" "scaleMinor" "[I"
def gw_860 : Cond := Cond.lays "ChoraleSearchModel" "ChoraleSearchModel" "tonic" "I"
def gw_862 : Cond := Cond.lays "ChoraleSearchModel" "ChoraleSearchModel" "isMinor" "Z"
def gw_864 : Cond := Cond.lays "ChoraleSearchModel" "ChoraleSearchModel" "places" "I"
def gw_866 : Cond := Cond.laysFinal "ChoraleSearchModel" "ChoraleSearchModel" "given" "[I"
def gw_868 : Cond := Cond.laysFinal "ChoraleSearchModel" "ChoraleSearchModel" "figure" "[I"
def gw_870 : Cond := Cond.laysFinal "ChoraleSearchModel" "ChoraleSearchModel" "inversion" "[I"
def gw_872 : Cond := Cond.laysFinal "ChoraleSearchModel" "ChoraleSearchModel" "fermata" "[Z"
def gw_874 : Cond := Cond.laysFinal "ChoraleSearchModel" "ChoraleSearchModel" "style" "[Z"
def gw_876 : Cond := Cond.laysFinal "ChoraleSearchModel" "ChoraleSearchModel" "cost" "[I"
def gw_878 : Cond := Cond.laysFinal "ChoraleSearchModel" "ChoraleSearchModel" "low" "[I"
def gw_880 : Cond := Cond.laysFinal "ChoraleSearchModel" "ChoraleSearchModel" "high" "[I"
def gw_882 : Cond := Cond.laysFinal "ChoraleSearchModel" "ChoraleSearchModel" "pitch" "[I"
def gw_884 : Cond := Cond.laysFinal "ChoraleSearchModel" "ChoraleSearchModel" "chordOf" "[I"
def gw_886 : Cond := Cond.laysFinal "ChoraleSearchModel" "ChoraleSearchModel" "stateCost" "[I"
def gw_888 : Cond := Cond.laysFinal "ChoraleSearchModel" "ChoraleSearchModel" "many" "[I"
def gw_890 : Cond := Cond.laysFinal "ChoraleSearchModel" "ChoraleSearchModel" "waySum" "[I"
def gw_892 : Cond := Cond.laysFinal "ChoraleSearchModel" "ChoraleSearchModel" "wayState" "[I"
def gw_894 : Cond := Cond.laysFinal "ChoraleSearchModel" "ChoraleSearchModel" "wayRank" "[I"
def gw_896 : Cond := Cond.laysFinal "ChoraleSearchModel" "ChoraleSearchModel" "ways" "[I"
def gw_898 : Cond := Cond.laysFinal "ChoraleSearchModel" "ChoraleSearchModel" "isKept" "[Z"
def gw_900 : Cond := Cond.laysFinal "ChoraleSearchModel" "ChoraleSearchModel" "isCome" "[Z"
def gw_902 : Cond := Cond.lays "ChoraleSearchModel" "ChoraleSearchModel" "rows" "I"
def gw_904 : Cond := Cond.laysFinal "ChoraleSearchModel" "ChoraleSearchModel" "rowPitch" "[I"
def gw_906 : Cond := Cond.laysFinal "ChoraleSearchModel" "ChoraleSearchModel" "rowChord" "[I"
def gw_908 : Cond := Cond.laysFinal "ChoraleSearchModel" "ChoraleSearchModel" "rowSum" "[I"
def gw_910 : Cond := Cond.lays "ChoraleSearchModel" "ChoraleSearchModel" "isSure" "Z"
def gw_912 : Cond := Cond.laysFinal "ChoraleSearchModel" "ChoraleSearchModel" "now" "[I"
def gw_914 : Cond := Cond.lays "ChoraleSearchModel" "ChoraleSearchModel" "barred" "I"
def gw_916 : Cond := Cond.laysFinal "ChoraleSearchModel" "ChoraleSearchModel" "topState" "[I"
def gw_918 : Cond := Cond.laysFinal "ChoraleSearchModel" "ChoraleSearchModel" "topRank" "[I"
def gw_920 : Cond := Cond.lays "ChoraleSearchModel" "ChoraleSearchModel" "stepBars" "I"
def gw_923 : Cond := Cond.methodLink "ChoraleSearchLaw" 17 ⟨"ChoraleSearchModel", "key", "(II)I"⟩
def gw_924 : Cond := Cond.instanceMethod ⟨"ChoraleSearchModel", "key", "(II)I"⟩
def gw_925 : Cond := Cond.selects "ChoraleSearchModel" ⟨"ChoraleSearchModel", "key", "(II)I"⟩ ⟨"ChoraleSearchModel", "key", "(II)I"⟩
def gw_926 : Cond := Cond.code ⟨"ChoraleSearchModel", "key", "(II)I"⟩ prog_13_method_7_code 3 (some .int)
def gw_927 : Cond := Cond.constantLong "ChoraleSearchModel" 117 (11 : Int64)
def gw_928 : Cond := Cond.methodLink "ChoraleSearchModel" 119 ⟨"ChoraleSearchModel", "in", "(JJJ)Z"⟩
def gw_929 : Cond := Cond.static ⟨"ChoraleSearchModel", "in", "(JJJ)Z"⟩
def gw_930 : Cond := Cond.code ⟨"ChoraleSearchModel", "in", "(JJJ)Z"⟩ prog_13_method_2_code 6 (some .boolean)
def gw_931 : Cond := Cond.methodLink "ChoraleSearchLaw" 22 ⟨"ChoraleSearchModel", "places", "(I)I"⟩
def gw_932 : Cond := Cond.instanceMethod ⟨"ChoraleSearchModel", "places", "(I)I"⟩
def gw_933 : Cond := Cond.selects "ChoraleSearchModel" ⟨"ChoraleSearchModel", "places", "(I)I"⟩ ⟨"ChoraleSearchModel", "places", "(I)I"⟩
def gw_934 : Cond := Cond.code ⟨"ChoraleSearchModel", "places", "(I)I"⟩ prog_13_method_8_code 5 (some .int)
def gw_935 : Cond := Cond.constantLong "ChoraleSearchModel" 126 (16 : Int64)
def gw_936 : Cond := Cond.methodLink "ChoraleSearchLaw" 27 ⟨"ChoraleSearchModel", "given", "(III)I"⟩
def gw_937 : Cond := Cond.instanceMethod ⟨"ChoraleSearchModel", "given", "(III)I"⟩
def gw_938 : Cond := Cond.selects "ChoraleSearchModel" ⟨"ChoraleSearchModel", "given", "(III)I"⟩ ⟨"ChoraleSearchModel", "given", "(III)I"⟩
def gw_939 : Cond := Cond.code ⟨"ChoraleSearchModel", "given", "(III)I"⟩ prog_13_method_10_code 5 (some .int)
def gw_940 : Cond := Cond.constantLong "ChoraleSearchModel" 128 (3 : Int64)
def gw_941 : Cond := Cond.methodLink "ChoraleSearchModel" 130 ⟨"ChoraleSearchModel", "noPlace", "(I)Z"⟩
def gw_943 : Cond := Cond.instanceMethod ⟨"ChoraleSearchModel", "noPlace", "(I)Z"⟩
def gw_944 : Cond := Cond.code ⟨"ChoraleSearchModel", "noPlace", "(I)Z"⟩ prog_13_method_9_code 2 (some .boolean)
def gw_945 : Cond := Cond.constantLong "ChoraleSearchModel" 134 (36 : Int64)
def gw_946 : Cond := Cond.constantLong "ChoraleSearchModel" 136 (84 : Int64)
def gw_947 : Cond := Cond.methodLink "ChoraleSearchLaw" 31 ⟨"ChoraleSearchModel", "free", "(II)I"⟩
def gw_948 : Cond := Cond.instanceMethod ⟨"ChoraleSearchModel", "free", "(II)I"⟩
def gw_949 : Cond := Cond.selects "ChoraleSearchModel" ⟨"ChoraleSearchModel", "free", "(II)I"⟩ ⟨"ChoraleSearchModel", "free", "(II)I"⟩
def gw_950 : Cond := Cond.code ⟨"ChoraleSearchModel", "free", "(II)I"⟩ prog_13_method_11_code 4 (some .int)
def gw_951 : Cond := Cond.methodLink "ChoraleSearchLaw" 35 ⟨"ChoraleSearchModel", "figure", "(II)I"⟩
def gw_952 : Cond := Cond.instanceMethod ⟨"ChoraleSearchModel", "figure", "(II)I"⟩
def gw_953 : Cond := Cond.selects "ChoraleSearchModel" ⟨"ChoraleSearchModel", "figure", "(II)I"⟩ ⟨"ChoraleSearchModel", "figure", "(II)I"⟩
def gw_954 : Cond := Cond.code ⟨"ChoraleSearchModel", "figure", "(II)I"⟩ prog_13_method_12_code 4 (some .int)
def gw_955 : Cond := Cond.constantLong "ChoraleSearchModel" 138 (-1 : Int64)
def gw_956 : Cond := Cond.constantLong "ChoraleSearchModel" 140 (12 : Int64)
def gw_957 : Cond := Cond.methodLink "ChoraleSearchLaw" 39 ⟨"ChoraleSearchModel", "inversion", "(II)I"⟩
def gw_958 : Cond := Cond.instanceMethod ⟨"ChoraleSearchModel", "inversion", "(II)I"⟩
def gw_959 : Cond := Cond.selects "ChoraleSearchModel" ⟨"ChoraleSearchModel", "inversion", "(II)I"⟩ ⟨"ChoraleSearchModel", "inversion", "(II)I"⟩
def gw_960 : Cond := Cond.code ⟨"ChoraleSearchModel", "inversion", "(II)I"⟩ prog_13_method_13_code 4 (some .int)
def gw_961 : Cond := Cond.methodLink "ChoraleSearchLaw" 44 ⟨"ChoraleSearchModel", "fermata", "(IZ)I"⟩
def gw_962 : Cond := Cond.instanceMethod ⟨"ChoraleSearchModel", "fermata", "(IZ)I"⟩
def gw_963 : Cond := Cond.selects "ChoraleSearchModel" ⟨"ChoraleSearchModel", "fermata", "(IZ)I"⟩ ⟨"ChoraleSearchModel", "fermata", "(IZ)I"⟩
def gw_964 : Cond := Cond.code ⟨"ChoraleSearchModel", "fermata", "(IZ)I"⟩ prog_13_method_14_code 4 (some .int)
def gw_965 : Cond := Cond.methodLink "ChoraleSearchLaw" 48 ⟨"ChoraleSearchModel", "style", "(IZ)I"⟩
def gw_966 : Cond := Cond.instanceMethod ⟨"ChoraleSearchModel", "style", "(IZ)I"⟩
def gw_967 : Cond := Cond.selects "ChoraleSearchModel" ⟨"ChoraleSearchModel", "style", "(IZ)I"⟩ ⟨"ChoraleSearchModel", "style", "(IZ)I"⟩
def gw_968 : Cond := Cond.code ⟨"ChoraleSearchModel", "style", "(IZ)I"⟩ prog_13_method_15_code 4 (some .int)
def gw_969 : Cond := Cond.methodLink "ChoraleSearchLaw" 52 ⟨"ChoraleSearchModel", "cost", "(II)I"⟩
def gw_970 : Cond := Cond.instanceMethod ⟨"ChoraleSearchModel", "cost", "(II)I"⟩
def gw_971 : Cond := Cond.selects "ChoraleSearchModel" ⟨"ChoraleSearchModel", "cost", "(II)I"⟩ ⟨"ChoraleSearchModel", "cost", "(II)I"⟩
def gw_972 : Cond := Cond.code ⟨"ChoraleSearchModel", "cost", "(II)I"⟩ prog_13_method_16_code 4 (some .int)
def gw_973 : Cond := Cond.constantLong "ChoraleSearchModel" 142 (8 : Int64)
def gw_974 : Cond := Cond.constantLong "ChoraleSearchModel" 144 (1000 : Int64)
def gw_975 : Cond := Cond.methodLink "ChoraleSearchLaw" 56 ⟨"ChoraleSearchModel", "range", "(III)I"⟩
def gw_976 : Cond := Cond.instanceMethod ⟨"ChoraleSearchModel", "range", "(III)I"⟩
def gw_977 : Cond := Cond.selects "ChoraleSearchModel" ⟨"ChoraleSearchModel", "range", "(III)I"⟩ ⟨"ChoraleSearchModel", "range", "(III)I"⟩
def gw_978 : Cond := Cond.code ⟨"ChoraleSearchModel", "range", "(III)I"⟩ prog_13_method_17_code 4 (some .int)
def gw_979 : Cond := Cond.methodLink "ChoraleSearchLaw" 81 ⟨"ChoraleSearchModel", "states", "(I)I"⟩
def gw_980 : Cond := Cond.instanceMethod ⟨"ChoraleSearchModel", "states", "(I)I"⟩
def gw_981 : Cond := Cond.selects "ChoraleSearchModel" ⟨"ChoraleSearchModel", "states", "(I)I"⟩ ⟨"ChoraleSearchModel", "states", "(I)I"⟩
def gw_982 : Cond := Cond.code ⟨"ChoraleSearchModel", "states", "(I)I"⟩ prog_13_method_27_code 2 (some .int)
def gw_983 : Cond := Cond.methodLink "ChoraleSearchModel" 175 ⟨"ChoraleSearchModel", "findStates", "(IZZ)I"⟩
def gw_985 : Cond := Cond.instanceMethod ⟨"ChoraleSearchModel", "findStates", "(IZZ)I"⟩
def gw_986 : Cond := Cond.code ⟨"ChoraleSearchModel", "findStates", "(IZZ)I"⟩ prog_13_method_23_code 11 (some .int)
def gw_987 : Cond := Cond.methodLink "ChoraleSearchModel" 152 ⟨"ChoraleSearchModel", "most", "(II)I"⟩
def gw_988 : Cond := Cond.static ⟨"ChoraleSearchModel", "most", "(II)I"⟩
def gw_989 : Cond := Cond.code ⟨"ChoraleSearchModel", "most", "(II)I"⟩ prog_13_method_20_code 2 (some .int)
def gw_990 : Cond := Cond.methodLink "ChoraleSearchModel" 155 ⟨"ChoraleSearchModel", "lesser", "(II)I"⟩
def gw_991 : Cond := Cond.static ⟨"ChoraleSearchModel", "lesser", "(II)I"⟩
def gw_992 : Cond := Cond.code ⟨"ChoraleSearchModel", "lesser", "(II)I"⟩ prog_13_method_21_code 2 (some .int)
def gw_993 : Cond := Cond.methodLink "ChoraleSearchModel" 158 ⟨"ChoraleSearchModel", "mayHave", "(IIII)Z"⟩
def gw_995 : Cond := Cond.instanceMethod ⟨"ChoraleSearchModel", "mayHave", "(IIII)Z"⟩
def gw_996 : Cond := Cond.code ⟨"ChoraleSearchModel", "mayHave", "(IIII)Z"⟩ prog_13_method_22_code 7 (some .boolean)
def gw_997 : Cond := Cond.methodLink "ChoraleSearchModel" 146 ⟨"ChoraleSearchModel", "memberOf", "(II)I"⟩
def gw_999 : Cond := Cond.instanceMethod ⟨"ChoraleSearchModel", "memberOf", "(II)I"⟩
def gw_1000 : Cond := Cond.code ⟨"ChoraleSearchModel", "memberOf", "(II)I"⟩ prog_13_method_6_code 5 (some .int)
def gw_1001 : Cond := Cond.methodLink "ChoraleSearchModel" 109 ⟨"ChoraleSearchModel", "degreeOf", "(I)I"⟩
def gw_1003 : Cond := Cond.instanceMethod ⟨"ChoraleSearchModel", "degreeOf", "(I)I"⟩
def gw_1004 : Cond := Cond.code ⟨"ChoraleSearchModel", "degreeOf", "(I)I"⟩ prog_13_method_5_code 2 (some .int)
def gw_1005 : Cond := Cond.methodLink "ChoraleSearchModel" 113 ⟨"ChoraleSearchModel", "degree", "(II)I"⟩
def gw_1007 : Cond := Cond.instanceMethod ⟨"ChoraleSearchModel", "degree", "(II)I"⟩
def gw_1008 : Cond := Cond.code ⟨"ChoraleSearchModel", "degree", "(II)I"⟩ prog_13_method_4_code 3 (some .int)
def gw_1009 : Cond := Cond.methodLink "ChoraleSearchModel" 162 ⟨"ChoraleSearchModel", "barsState", "(II)I"⟩
def gw_1011 : Cond := Cond.instanceMethod ⟨"ChoraleSearchModel", "barsState", "(II)I"⟩
def gw_1012 : Cond := Cond.code ⟨"ChoraleSearchModel", "barsState", "(II)I"⟩ prog_13_method_18_code 12 (some .int)
def gw_1013 : Cond := Cond.methodLink "ChoraleSearchModel" 165 ⟨"ChoraleSearchModel", "putState", "(III)V"⟩
def gw_1015 : Cond := Cond.instanceMethod ⟨"ChoraleSearchModel", "putState", "(III)V"⟩
def gw_1016 : Cond := Cond.code ⟨"ChoraleSearchModel", "putState", "(III)V"⟩ prog_13_method_25_code 7 none
def gw_1017 : Cond := Cond.methodLink "ChoraleSearchModel" 169 ⟨"ChoraleSearchModel", "orderTo", "(II)I"⟩
def gw_1019 : Cond := Cond.instanceMethod ⟨"ChoraleSearchModel", "orderTo", "(II)I"⟩
def gw_1020 : Cond := Cond.code ⟨"ChoraleSearchModel", "orderTo", "(II)I"⟩ prog_13_method_24_code 4 (some .int)
def gw_1021 : Cond := Cond.methodLink "ChoraleSearchModel" 172 ⟨"ChoraleSearchModel", "costOfState", "(I)I"⟩
def gw_1023 : Cond := Cond.instanceMethod ⟨"ChoraleSearchModel", "costOfState", "(I)I"⟩
def gw_1024 : Cond := Cond.code ⟨"ChoraleSearchModel", "costOfState", "(I)I"⟩ prog_13_method_19_code 7 (some .int)
def gw_1025 : Cond := Cond.methodLink "ChoraleSearchLaw" 60 ⟨"ChoraleSearchModel", "solve", "(I)I"⟩
def gw_1026 : Cond := Cond.instanceMethod ⟨"ChoraleSearchModel", "solve", "(I)I"⟩
def gw_1027 : Cond := Cond.selects "ChoraleSearchModel" ⟨"ChoraleSearchModel", "solve", "(I)I"⟩ ⟨"ChoraleSearchModel", "solve", "(I)I"⟩
def gw_1028 : Cond := Cond.code ⟨"ChoraleSearchModel", "solve", "(I)I"⟩ prog_13_method_39_code 2 (some .int)
def gw_1029 : Cond := Cond.constantLong "ChoraleSearchModel" 208 (100 : Int64)
def gw_1030 : Cond := Cond.methodLink "ChoraleSearchModel" 210 ⟨"ChoraleSearchModel", "findAll", "()Z"⟩
def gw_1032 : Cond := Cond.instanceMethod ⟨"ChoraleSearchModel", "findAll", "()Z"⟩
def gw_1033 : Cond := Cond.code ⟨"ChoraleSearchModel", "findAll", "()Z"⟩ prog_13_method_26_code 2 (some .boolean)
def gw_1034 : Cond := Cond.methodLink "ChoraleSearchModel" 214 ⟨"ChoraleSearchModel", "goBack", "(I)Z"⟩
def gw_1036 : Cond := Cond.instanceMethod ⟨"ChoraleSearchModel", "goBack", "(I)Z"⟩
def gw_1037 : Cond := Cond.code ⟨"ChoraleSearchModel", "goBack", "(I)Z"⟩ prog_13_method_37_code 9 (some .boolean)
def gw_1038 : Cond := Cond.methodLink "ChoraleSearchModel" 194 ⟨"ChoraleSearchModel", "addWay", "(IIII)V"⟩
def gw_1040 : Cond := Cond.instanceMethod ⟨"ChoraleSearchModel", "addWay", "(IIII)V"⟩
def gw_1041 : Cond := Cond.code ⟨"ChoraleSearchModel", "addWay", "(IIII)V"⟩ prog_13_method_34_code 9 none
def gw_1042 : Cond := Cond.methodLink "ChoraleSearchModel" 191 ⟨"ChoraleSearchModel", "isBehind", "(IIII)Z"⟩
def gw_1044 : Cond := Cond.instanceMethod ⟨"ChoraleSearchModel", "isBehind", "(IIII)Z"⟩
def gw_1045 : Cond := Cond.code ⟨"ChoraleSearchModel", "isBehind", "(IIII)Z"⟩ prog_13_method_35_code 5 (some .boolean)
def gw_1046 : Cond := Cond.methodLink "ChoraleSearchModel" 198 ⟨"ChoraleSearchModel", "barsStep", "(II)I"⟩
def gw_1048 : Cond := Cond.instanceMethod ⟨"ChoraleSearchModel", "barsStep", "(II)I"⟩
def gw_1049 : Cond := Cond.code ⟨"ChoraleSearchModel", "barsStep", "(II)I"⟩ prog_13_method_32_code 14 (some .int)
def gw_1050 : Cond := Cond.methodLink "ChoraleSearchModel" 182 ⟨"ChoraleSearchModel", "units", "(II)I"⟩
def gw_1051 : Cond := Cond.static ⟨"ChoraleSearchModel", "units", "(II)I"⟩
def gw_1052 : Cond := Cond.code ⟨"ChoraleSearchModel", "units", "(II)I"⟩ prog_13_method_29_code 4 (some .int)
def gw_1053 : Cond := Cond.methodLink "ChoraleSearchModel" 179 ⟨"ChoraleSearchModel", "function", "(I)I"⟩
def gw_1054 : Cond := Cond.static ⟨"ChoraleSearchModel", "function", "(I)I"⟩
def gw_1055 : Cond := Cond.code ⟨"ChoraleSearchModel", "function", "(I)I"⟩ prog_13_method_28_code 1 (some .int)
def gw_1056 : Cond := Cond.methodLink "ChoraleSearchModel" 185 ⟨"ChoraleSearchModel", "size", "(I)I"⟩
def gw_1057 : Cond := Cond.static ⟨"ChoraleSearchModel", "size", "(I)I"⟩
def gw_1058 : Cond := Cond.code ⟨"ChoraleSearchModel", "size", "(I)I"⟩ prog_13_method_30_code 1 (some .int)
def gw_1059 : Cond := Cond.methodLink "ChoraleSearchModel" 188 ⟨"ChoraleSearchModel", "apart", "(I)I"⟩
def gw_1060 : Cond := Cond.static ⟨"ChoraleSearchModel", "apart", "(I)I"⟩
def gw_1061 : Cond := Cond.code ⟨"ChoraleSearchModel", "apart", "(I)I"⟩ prog_13_method_31_code 1 (some .int)
def gw_1062 : Cond := Cond.methodLink "ChoraleSearchModel" 201 ⟨"ChoraleSearchModel", "costOfStep", "(II)I"⟩
def gw_1064 : Cond := Cond.instanceMethod ⟨"ChoraleSearchModel", "costOfStep", "(II)I"⟩
def gw_1065 : Cond := Cond.code ⟨"ChoraleSearchModel", "costOfStep", "(II)I"⟩ prog_13_method_33_code 9 (some .int)
def gw_1066 : Cond := Cond.methodLink "ChoraleSearchModel" 204 ⟨"ChoraleSearchModel", "narrow", "(II)Z"⟩
def gw_1068 : Cond := Cond.instanceMethod ⟨"ChoraleSearchModel", "narrow", "(II)Z"⟩
def gw_1069 : Cond := Cond.code ⟨"ChoraleSearchModel", "narrow", "(II)Z"⟩ prog_13_method_36_code 8 (some .boolean)
def gw_1070 : Cond := Cond.methodLink "ChoraleSearchModel" 220 ⟨"ChoraleSearchModel", "takeRows", "()V"⟩
def gw_1072 : Cond := Cond.instanceMethod ⟨"ChoraleSearchModel", "takeRows", "()V"⟩
def gw_1073 : Cond := Cond.code ⟨"ChoraleSearchModel", "takeRows", "()V"⟩ prog_13_method_38_code 6 none
def gw_1074 : Cond := Cond.methodLink "ChoraleSearchLaw" 64 ⟨"ChoraleSearchModel", "note", "(III)I"⟩
def gw_1075 : Cond := Cond.instanceMethod ⟨"ChoraleSearchModel", "note", "(III)I"⟩
def gw_1076 : Cond := Cond.selects "ChoraleSearchModel" ⟨"ChoraleSearchModel", "note", "(III)I"⟩ ⟨"ChoraleSearchModel", "note", "(III)I"⟩
def gw_1077 : Cond := Cond.code ⟨"ChoraleSearchModel", "note", "(III)I"⟩ prog_13_method_41_code 4 (some .int)
def gw_1078 : Cond := Cond.methodLink "ChoraleSearchModel" 223 ⟨"ChoraleSearchModel", "noRow", "(I)Z"⟩
def gw_1080 : Cond := Cond.instanceMethod ⟨"ChoraleSearchModel", "noRow", "(I)Z"⟩
def gw_1081 : Cond := Cond.code ⟨"ChoraleSearchModel", "noRow", "(I)Z"⟩ prog_13_method_40_code 2 (some .boolean)
def gw_1082 : Cond := Cond.methodLink "ChoraleSearchLaw" 68 ⟨"ChoraleSearchModel", "chord", "(II)I"⟩
def gw_1083 : Cond := Cond.instanceMethod ⟨"ChoraleSearchModel", "chord", "(II)I"⟩
def gw_1084 : Cond := Cond.selects "ChoraleSearchModel" ⟨"ChoraleSearchModel", "chord", "(II)I"⟩ ⟨"ChoraleSearchModel", "chord", "(II)I"⟩
def gw_1085 : Cond := Cond.code ⟨"ChoraleSearchModel", "chord", "(II)I"⟩ prog_13_method_42_code 3 (some .int)
def gw_1086 : Cond := Cond.methodLink "ChoraleSearchLaw" 72 ⟨"ChoraleSearchModel", "sum", "(I)I"⟩
def gw_1087 : Cond := Cond.instanceMethod ⟨"ChoraleSearchModel", "sum", "(I)I"⟩
def gw_1088 : Cond := Cond.selects "ChoraleSearchModel" ⟨"ChoraleSearchModel", "sum", "(I)I"⟩ ⟨"ChoraleSearchModel", "sum", "(I)I"⟩
def gw_1089 : Cond := Cond.code ⟨"ChoraleSearchModel", "sum", "(I)I"⟩ prog_13_method_43_code 2 (some .int)
def gw_1090 : Cond := Cond.methodLink "ChoraleSearchLaw" 77 ⟨"ChoraleSearchModel", "least", "()I"⟩
def gw_1091 : Cond := Cond.instanceMethod ⟨"ChoraleSearchModel", "least", "()I"⟩
def gw_1092 : Cond := Cond.selects "ChoraleSearchModel" ⟨"ChoraleSearchModel", "least", "()I"⟩ ⟨"ChoraleSearchModel", "least", "()I"⟩
def gw_1093 : Cond := Cond.code ⟨"ChoraleSearchModel", "least", "()I"⟩ prog_13_method_44_code 1 (some .int)
def gw_1094 : Cond := Cond.methodLink "ChoraleSearchLaw" 85 ⟨"ChoraleSearchModel", "blocked", "(I)I"⟩
def gw_1095 : Cond := Cond.instanceMethod ⟨"ChoraleSearchModel", "blocked", "(I)I"⟩
def gw_1096 : Cond := Cond.selects "ChoraleSearchModel" ⟨"ChoraleSearchModel", "blocked", "(I)I"⟩ ⟨"ChoraleSearchModel", "blocked", "(I)I"⟩
def gw_1097 : Cond := Cond.code ⟨"ChoraleSearchModel", "blocked", "(I)I"⟩ prog_13_method_46_code 4 (some .int)
def gw_1098 : Cond := Cond.constantLong "ChoraleSearchModel" 229 (2 : Int64)
def gw_1099 : Cond := Cond.methodLink "ChoraleSearchModel" 231 ⟨"ChoraleSearchModel", "firstBarred", "()I"⟩
def gw_1101 : Cond := Cond.instanceMethod ⟨"ChoraleSearchModel", "firstBarred", "()I"⟩
def gw_1102 : Cond := Cond.code ⟨"ChoraleSearchModel", "firstBarred", "()I"⟩ prog_13_method_45_code 6 (some .int)
def gw_1103 : Cond := Cond.methodLink "ChoraleSearchLaw" 89 ⟨"ChoraleSearchModel", "repair", "()I"⟩
def gw_1104 : Cond := Cond.instanceMethod ⟨"ChoraleSearchModel", "repair", "()I"⟩
def gw_1105 : Cond := Cond.selects "ChoraleSearchModel" ⟨"ChoraleSearchModel", "repair", "()I"⟩ ⟨"ChoraleSearchModel", "repair", "()I"⟩
def gw_1106 : Cond := Cond.code ⟨"ChoraleSearchModel", "repair", "()I"⟩ prog_13_method_47_code 5 (some .int)
def gw_1107 : Cond := Cond.methodLink "ChoraleSearchLaw" 93 ⟨"ChoraleSearchModel", "passing", "(II)I"⟩
def gw_1108 : Cond := Cond.instanceMethod ⟨"ChoraleSearchModel", "passing", "(II)I"⟩
def gw_1109 : Cond := Cond.selects "ChoraleSearchModel" ⟨"ChoraleSearchModel", "passing", "(II)I"⟩ ⟨"ChoraleSearchModel", "passing", "(II)I"⟩
def gw_1110 : Cond := Cond.code ⟨"ChoraleSearchModel", "passing", "(II)I"⟩ prog_13_method_48_code 9 (some .int)
def gw_1111 : Cond := Cond.methodLink "ChoraleSearchLaw" 97 ⟨"ChoraleSearchModel", "count", "(I)I"⟩
def gw_1112 : Cond := Cond.instanceMethod ⟨"ChoraleSearchModel", "count", "(I)I"⟩
def gw_1113 : Cond := Cond.selects "ChoraleSearchModel" ⟨"ChoraleSearchModel", "count", "(I)I"⟩ ⟨"ChoraleSearchModel", "count", "(I)I"⟩
def gw_1114 : Cond := Cond.code ⟨"ChoraleSearchModel", "count", "(I)I"⟩ prog_13_method_49_code 4 (some .int)
def gw_1115 : Cond := Cond.methodLink "ChoraleSearchLaw" 101 ⟨"ChoraleSearchModel", "member", "(II)I"⟩
def gw_1116 : Cond := Cond.instanceMethod ⟨"ChoraleSearchModel", "member", "(II)I"⟩
def gw_1117 : Cond := Cond.selects "ChoraleSearchModel" ⟨"ChoraleSearchModel", "member", "(II)I"⟩ ⟨"ChoraleSearchModel", "member", "(II)I"⟩
def gw_1118 : Cond := Cond.code ⟨"ChoraleSearchModel", "member", "(II)I"⟩ prog_13_method_50_code 3 (some .int)
def gp_0 : Cond := Cond.selects "ChoraleSearch$Score" ⟨"ChoraleSearch$Score", "clearFrom", "(I)V"⟩ ⟨"ChoraleSearch$Score", "clearFrom", "(I)V"⟩
def gp_1 : Cond := Cond.selects "ChoraleSearch$Harmony" ⟨"ChoraleSearch$Harmony", "tune", "(II)V"⟩ ⟨"ChoraleSearch$Harmony", "tune", "(II)V"⟩
def gp_2 : Cond := Cond.selects "ChoraleSearch$Harmony" ⟨"ChoraleSearch$Harmony", "tuneMember", "(II)V"⟩ ⟨"ChoraleSearch$Harmony", "tuneMember", "(II)V"⟩
def gp_3 : Cond := Cond.selects "ChoraleSearch" ⟨"ChoraleSearch", "forgetFound", "()V"⟩ ⟨"ChoraleSearch", "forgetFound", "()V"⟩
def gp_4 : Cond := Cond.selects "ChoraleSearch$RowSearch" ⟨"ChoraleSearch$RowSearch", "forget", "()V"⟩ ⟨"ChoraleSearch$RowSearch", "forget", "()V"⟩
def gp_5 : Cond := Cond.selects "ChoraleSearch$Table" ⟨"ChoraleSearch$Table", "spoil", "()V"⟩ ⟨"ChoraleSearch$Table", "spoil", "()V"⟩
def gp_6 : Cond := Cond.selects "ChoraleSearch" ⟨"ChoraleSearch", "isPlace", "(I)Z"⟩ ⟨"ChoraleSearch", "isPlace", "(I)Z"⟩
def gp_7 : Cond := Cond.selects "ChoraleSearch" ⟨"ChoraleSearch", "setPitch", "(III)I"⟩ ⟨"ChoraleSearch", "setPitch", "(III)I"⟩
def gp_8 : Cond := Cond.selects "ChoraleSearch$Table" ⟨"ChoraleSearch$Table", "prepare", "()V"⟩ ⟨"ChoraleSearch$Table", "prepare", "()V"⟩
def gp_9 : Cond := Cond.selects "ChoraleSearch$StateRules" ⟨"ChoraleSearch$StateRules", "fill", "(LChoraleSearch$Layer;I)V"⟩ ⟨"ChoraleSearch$StateRules", "fill", "(LChoraleSearch$Layer;I)V"⟩
def gp_10 : Cond := Cond.selects "ChoraleSearch$StateRules" ⟨"ChoraleSearch$StateRules", "setLimits", "(I)V"⟩ ⟨"ChoraleSearch$StateRules", "setLimits", "(I)V"⟩
def gp_11 : Cond := Cond.selects "ChoraleSearch$Score" ⟨"ChoraleSearch$Score", "lowAt", "(II)I"⟩ ⟨"ChoraleSearch$Score", "lowAt", "(II)I"⟩
def gp_12 : Cond := Cond.selects "ChoraleSearch$Score" ⟨"ChoraleSearch$Score", "highAt", "(II)I"⟩ ⟨"ChoraleSearch$Score", "highAt", "(II)I"⟩
def gp_13 : Cond := Cond.selects "ChoraleSearch$Score" ⟨"ChoraleSearch$Score", "figuredChords", "(I)I"⟩ ⟨"ChoraleSearch$Score", "figuredChords", "(I)I"⟩
def gp_14 : Cond := Cond.selects "ChoraleSearch$StateRules" ⟨"ChoraleSearch$StateRules", "chordsByRule6", "(I)I"⟩ ⟨"ChoraleSearch$StateRules", "chordsByRule6", "(I)I"⟩
def gp_15 : Cond := Cond.selects "ChoraleSearch$Score" ⟨"ChoraleSearch$Score", "isLast", "(I)Z"⟩ ⟨"ChoraleSearch$Score", "isLast", "(I)Z"⟩
def gp_16 : Cond := Cond.selects "ChoraleSearch$Harmony" ⟨"ChoraleSearch$Harmony", "chordsWith", "(I)I"⟩ ⟨"ChoraleSearch$Harmony", "chordsWith", "(I)I"⟩
def gp_17 : Cond := Cond.selects "ChoraleSearch$StateRules" ⟨"ChoraleSearch$StateRules", "fillBass", "(LChoraleSearch$Layer;IIII)V"⟩ ⟨"ChoraleSearch$StateRules", "fillBass", "(LChoraleSearch$Layer;IIII)V"⟩
def gp_18 : Cond := Cond.selects "ChoraleSearch$StateRules" ⟨"ChoraleSearch$StateRules", "bassChords", "(II)I"⟩ ⟨"ChoraleSearch$StateRules", "bassChords", "(II)I"⟩
def gp_19 : Cond := Cond.selects "ChoraleSearch$Harmony" ⟨"ChoraleSearch$Harmony", "chordsWithMember", "(II)I"⟩ ⟨"ChoraleSearch$Harmony", "chordsWithMember", "(II)I"⟩
def gp_20 : Cond := Cond.selects "ChoraleSearch$StateRules" ⟨"ChoraleSearch$StateRules", "addComplete", "(LChoraleSearch$Layer;II)V"⟩ ⟨"ChoraleSearch$StateRules", "addComplete", "(LChoraleSearch$Layer;II)V"⟩
def gp_21 : Cond := Cond.selects "ChoraleSearch$StateRules" ⟨"ChoraleSearch$StateRules", "keepsRules4And5", "(II)Z"⟩ ⟨"ChoraleSearch$StateRules", "keepsRules4And5", "(II)Z"⟩
def gp_22 : Cond := Cond.selects "ChoraleSearch$Harmony" ⟨"ChoraleSearch$Harmony", "memberClass", "(II)I"⟩ ⟨"ChoraleSearch$Harmony", "memberClass", "(II)I"⟩
def gp_23 : Cond := Cond.selects "ChoraleSearch$Harmony" ⟨"ChoraleSearch$Harmony", "guardsLeading", "(I)Z"⟩ ⟨"ChoraleSearch$Harmony", "guardsLeading", "(I)Z"⟩
def gp_24 : Cond := Cond.selects "ChoraleSearch$Layer" ⟨"ChoraleSearch$Layer", "add", "(I)V"⟩ ⟨"ChoraleSearch$Layer", "add", "(I)V"⟩
def gp_25 : Cond := Cond.selects "ChoraleSearch$Table" ⟨"ChoraleSearch$Table", "overflows", "()Z"⟩ ⟨"ChoraleSearch$Table", "overflows", "()Z"⟩
def gp_26 : Cond := Cond.selects "ChoraleSearch$RowSearch" ⟨"ChoraleSearch$RowSearch", "run", "(I)V"⟩ ⟨"ChoraleSearch$RowSearch", "run", "(I)V"⟩
def gp_27 : Cond := Cond.selects "ChoraleSearch$RowSearch" ⟨"ChoraleSearch$RowSearch", "findRests", "(I)V"⟩ ⟨"ChoraleSearch$RowSearch", "findRests", "(I)V"⟩
def gp_28 : Cond := Cond.selects "ChoraleSearch$Layer" ⟨"ChoraleSearch$Layer", "kept", "()I"⟩ ⟨"ChoraleSearch$Layer", "kept", "()I"⟩
def gp_29 : Cond := Cond.selects "ChoraleSearch$Costs" ⟨"ChoraleSearch$Costs", "ofState", "(I)I"⟩ ⟨"ChoraleSearch$Costs", "ofState", "(I)I"⟩
def gp_30 : Cond := Cond.selects "ChoraleSearch$Costs" ⟨"ChoraleSearch$Costs", "inversionUnits", "(I)I"⟩ ⟨"ChoraleSearch$Costs", "inversionUnits", "(I)I"⟩
def gp_31 : Cond := Cond.selects "ChoraleSearch$Harmony" ⟨"ChoraleSearch$Harmony", "timesMember", "(II)I"⟩ ⟨"ChoraleSearch$Harmony", "timesMember", "(II)I"⟩
def gp_32 : Cond := Cond.selects "ChoraleSearch$RowSearch" ⟨"ChoraleSearch$RowSearch", "linkOnward", "(III)V"⟩ ⟨"ChoraleSearch$RowSearch", "linkOnward", "(III)V"⟩
def gp_33 : Cond := Cond.selects "ChoraleSearch$StepRules" ⟨"ChoraleSearch$StepRules", "allow", "(II)Z"⟩ ⟨"ChoraleSearch$StepRules", "allow", "(II)Z"⟩
def gp_34 : Cond := Cond.selects "ChoraleSearch$StepRules" ⟨"ChoraleSearch$StepRules", "lookAt", "(II)V"⟩ ⟨"ChoraleSearch$StepRules", "lookAt", "(II)V"⟩
def gp_35 : Cond := Cond.selects "ChoraleSearch$StepRules" ⟨"ChoraleSearch$StepRules", "breaks7", "()Z"⟩ ⟨"ChoraleSearch$StepRules", "breaks7", "()Z"⟩
def gp_36 : Cond := Cond.selects "ChoraleSearch$Harmony" ⟨"ChoraleSearch$Harmony", "unitsBetween", "(II)I"⟩ ⟨"ChoraleSearch$Harmony", "unitsBetween", "(II)I"⟩
def gp_37 : Cond := Cond.selects "ChoraleSearch$StepRules" ⟨"ChoraleSearch$StepRules", "breaks10", "()Z"⟩ ⟨"ChoraleSearch$StepRules", "breaks10", "()Z"⟩
def gp_38 : Cond := Cond.selects "ChoraleSearch$StepRules" ⟨"ChoraleSearch$StepRules", "breaks9", "()Z"⟩ ⟨"ChoraleSearch$StepRules", "breaks9", "()Z"⟩
def gp_39 : Cond := Cond.selects "ChoraleSearch$StepRules" ⟨"ChoraleSearch$StepRules", "breaks8", "()Z"⟩ ⟨"ChoraleSearch$StepRules", "breaks8", "()Z"⟩
def gp_40 : Cond := Cond.selects "ChoraleSearch$StepRules" ⟨"ChoraleSearch$StepRules", "breaks11", "()Z"⟩ ⟨"ChoraleSearch$StepRules", "breaks11", "()Z"⟩
def gp_41 : Cond := Cond.selects "ChoraleSearch$StepRules" ⟨"ChoraleSearch$StepRules", "leadsAstray", "(I)Z"⟩ ⟨"ChoraleSearch$StepRules", "leadsAstray", "(I)Z"⟩
def gp_42 : Cond := Cond.selects "ChoraleSearch$StepRules" ⟨"ChoraleSearch$StepRules", "breaks12", "()Z"⟩ ⟨"ChoraleSearch$StepRules", "breaks12", "()Z"⟩
def gp_43 : Cond := Cond.selects "ChoraleSearch$Costs" ⟨"ChoraleSearch$Costs", "ofStep", "(II)I"⟩ ⟨"ChoraleSearch$Costs", "ofStep", "(II)I"⟩
def gp_44 : Cond := Cond.selects "ChoraleSearch$RowSearch" ⟨"ChoraleSearch$RowSearch", "insertRests", "(IIII)V"⟩ ⟨"ChoraleSearch$RowSearch", "insertRests", "(IIII)V"⟩
def gp_45 : Cond := Cond.selects "ChoraleSearch$RowSearch" ⟨"ChoraleSearch$RowSearch", "narrow", "(II)V"⟩ ⟨"ChoraleSearch$RowSearch", "narrow", "(II)V"⟩
def gp_46 : Cond := Cond.selects "ChoraleSearch$RowSearch" ⟨"ChoraleSearch$RowSearch", "sortIn", "(II)V"⟩ ⟨"ChoraleSearch$RowSearch", "sortIn", "(II)V"⟩
def gp_47 : Cond := Cond.selects "ChoraleSearch$RowSearch" ⟨"ChoraleSearch$RowSearch", "dropWorst", "([III)V"⟩ ⟨"ChoraleSearch$RowSearch", "dropWorst", "([III)V"⟩
def gp_48 : Cond := Cond.selects "ChoraleSearch$RowSearch" ⟨"ChoraleSearch$RowSearch", "listAlive", "(I)V"⟩ ⟨"ChoraleSearch$RowSearch", "listAlive", "(I)V"⟩
def gp_49 : Cond := Cond.selects "ChoraleSearch$RowSearch" ⟨"ChoraleSearch$RowSearch", "gatherRows", "()V"⟩ ⟨"ChoraleSearch$RowSearch", "gatherRows", "()V"⟩
def gp_50 : Cond := Cond.selects "ChoraleSearch$RowSearch" ⟨"ChoraleSearch$RowSearch", "traceRows", "()V"⟩ ⟨"ChoraleSearch$RowSearch", "traceRows", "()V"⟩
def gp_51 : Cond := Cond.selects "ChoraleSearch" ⟨"ChoraleSearch", "isRow", "(I)Z"⟩ ⟨"ChoraleSearch", "isRow", "(I)Z"⟩
def gp_52 : Cond := Cond.selects "ChoraleSearch$RowSearch" ⟨"ChoraleSearch$RowSearch", "codeAt", "(II)I"⟩ ⟨"ChoraleSearch$RowSearch", "codeAt", "(II)I"⟩
def gp_53 : Cond := Cond.selects "ChoraleSearch$Reach" ⟨"ChoraleSearch$Reach", "firstUnreached", "()I"⟩ ⟨"ChoraleSearch$Reach", "firstUnreached", "()I"⟩
def gp_54 : Cond := Cond.selects "ChoraleSearch$Reach" ⟨"ChoraleSearch$Reach", "markReached", "(I)Z"⟩ ⟨"ChoraleSearch$Reach", "markReached", "(I)Z"⟩
def gp_55 : Cond := Cond.selects "ChoraleSearch$Reach" ⟨"ChoraleSearch$Reach", "isEntered", "(II)Z"⟩ ⟨"ChoraleSearch$Reach", "isEntered", "(II)Z"⟩
def gp_56 : Cond := Cond.selects "ChoraleSearch$Layer" ⟨"ChoraleSearch$Layer", "isMarked", "(II)Z"⟩ ⟨"ChoraleSearch$Layer", "isMarked", "(II)Z"⟩
def gp_57 : Cond := Cond.selects "ChoraleSearch$Reach" ⟨"ChoraleSearch$Reach", "barringRules", "(I)I"⟩ ⟨"ChoraleSearch$Reach", "barringRules", "(I)I"⟩
def gp_58 : Cond := Cond.selects "ChoraleSearch$StateRules" ⟨"ChoraleSearch$StateRules", "barring", "(I)I"⟩ ⟨"ChoraleSearch$StateRules", "barring", "(I)I"⟩
def gp_59 : Cond := Cond.selects "ChoraleSearch$StateRules" ⟨"ChoraleSearch$StateRules", "surveyVoices", "(II)Z"⟩ ⟨"ChoraleSearch$StateRules", "surveyVoices", "(II)Z"⟩
def gp_60 : Cond := Cond.selects "ChoraleSearch$StateRules" ⟨"ChoraleSearch$StateRules", "surveyVoice", "(III)V"⟩ ⟨"ChoraleSearch$StateRules", "surveyVoice", "(III)V"⟩
def gp_61 : Cond := Cond.selects "ChoraleSearch$StateRules" ⟨"ChoraleSearch$StateRules", "memberAt", "(II)I"⟩ ⟨"ChoraleSearch$StateRules", "memberAt", "(II)I"⟩
def gp_62 : Cond := Cond.selects "ChoraleSearch$StateRules" ⟨"ChoraleSearch$StateRules", "maySound", "(III)Z"⟩ ⟨"ChoraleSearch$StateRules", "maySound", "(III)Z"⟩
def gp_63 : Cond := Cond.selects "ChoraleSearch$StateRules" ⟨"ChoraleSearch$StateRules", "someBreak3", "()Z"⟩ ⟨"ChoraleSearch$StateRules", "someBreak3", "()Z"⟩
def gp_64 : Cond := Cond.selects "ChoraleSearch$StateRules" ⟨"ChoraleSearch$StateRules", "someBreak4", "(I)Z"⟩ ⟨"ChoraleSearch$StateRules", "someBreak4", "(I)Z"⟩
def gp_65 : Cond := Cond.selects "ChoraleSearch$StateRules" ⟨"ChoraleSearch$StateRules", "canMiss", "(I)Z"⟩ ⟨"ChoraleSearch$StateRules", "canMiss", "(I)Z"⟩
def gp_66 : Cond := Cond.selects "ChoraleSearch$StateRules" ⟨"ChoraleSearch$StateRules", "someBreak5", "(I)Z"⟩ ⟨"ChoraleSearch$StateRules", "someBreak5", "(I)Z"⟩
def gp_67 : Cond := Cond.selects "ChoraleSearch$StateRules" ⟨"ChoraleSearch$StateRules", "canDouble", "(I)Z"⟩ ⟨"ChoraleSearch$StateRules", "canDouble", "(I)Z"⟩
def gp_68 : Cond := Cond.selects "ChoraleSearch$StateRules" ⟨"ChoraleSearch$StateRules", "someBreak6", "(II)Z"⟩ ⟨"ChoraleSearch$StateRules", "someBreak6", "(II)Z"⟩
def gp_69 : Cond := Cond.selects "ChoraleSearch$Reach" ⟨"ChoraleSearch$Reach", "barringSteps", "(ILChoraleSearch$Layer;)I"⟩ ⟨"ChoraleSearch$Reach", "barringSteps", "(ILChoraleSearch$Layer;)I"⟩
def gp_70 : Cond := Cond.selects "ChoraleSearch$StepRules" ⟨"ChoraleSearch$StepRules", "barring", "(II)I"⟩ ⟨"ChoraleSearch$StepRules", "barring", "(II)I"⟩
def gp_71 : Cond := Cond.selects "ChoraleSearch$Reach" ⟨"ChoraleSearch$Reach", "noteToGiveWay", "()I"⟩ ⟨"ChoraleSearch$Reach", "noteToGiveWay", "()I"⟩
def gp_72 : Cond := Cond.selects "ChoraleSearch$Reach" ⟨"ChoraleSearch$Reach", "markGoingOn", "()V"⟩ ⟨"ChoraleSearch$Reach", "markGoingOn", "()V"⟩
def gp_73 : Cond := Cond.selects "ChoraleSearch$Reach" ⟨"ChoraleSearch$Reach", "goesOn", "(II)Z"⟩ ⟨"ChoraleSearch$Reach", "goesOn", "(II)Z"⟩
def gp_74 : Cond := Cond.selects "ChoraleSearch$Reach" ⟨"ChoraleSearch$Reach", "trialJoins", "(I)Z"⟩ ⟨"ChoraleSearch$Reach", "trialJoins", "(I)Z"⟩
def gp_75 : Cond := Cond.selects "ChoraleSearch$Harmony" ⟨"ChoraleSearch$Harmony", "inScale", "(I)Z"⟩ ⟨"ChoraleSearch$Harmony", "inScale", "(I)Z"⟩
def gp_76 : Cond := Cond.selects "ChoraleSearch$Score" ⟨"ChoraleSearch$Score", "givenNotes", "()I"⟩ ⟨"ChoraleSearch$Score", "givenNotes", "()I"⟩
def gp_77 : Cond := Cond.selects "ChoraleSearchModel" ⟨"ChoraleSearchModel", "noPlace", "(I)Z"⟩ ⟨"ChoraleSearchModel", "noPlace", "(I)Z"⟩
def gp_78 : Cond := Cond.selects "ChoraleSearchModel" ⟨"ChoraleSearchModel", "findStates", "(IZZ)I"⟩ ⟨"ChoraleSearchModel", "findStates", "(IZZ)I"⟩
def gp_79 : Cond := Cond.selects "ChoraleSearchModel" ⟨"ChoraleSearchModel", "mayHave", "(IIII)Z"⟩ ⟨"ChoraleSearchModel", "mayHave", "(IIII)Z"⟩
def gp_80 : Cond := Cond.selects "ChoraleSearchModel" ⟨"ChoraleSearchModel", "memberOf", "(II)I"⟩ ⟨"ChoraleSearchModel", "memberOf", "(II)I"⟩
def gp_81 : Cond := Cond.selects "ChoraleSearchModel" ⟨"ChoraleSearchModel", "degreeOf", "(I)I"⟩ ⟨"ChoraleSearchModel", "degreeOf", "(I)I"⟩
def gp_82 : Cond := Cond.selects "ChoraleSearchModel" ⟨"ChoraleSearchModel", "degree", "(II)I"⟩ ⟨"ChoraleSearchModel", "degree", "(II)I"⟩
def gp_83 : Cond := Cond.selects "ChoraleSearchModel" ⟨"ChoraleSearchModel", "barsState", "(II)I"⟩ ⟨"ChoraleSearchModel", "barsState", "(II)I"⟩
def gp_84 : Cond := Cond.selects "ChoraleSearchModel" ⟨"ChoraleSearchModel", "putState", "(III)V"⟩ ⟨"ChoraleSearchModel", "putState", "(III)V"⟩
def gp_85 : Cond := Cond.selects "ChoraleSearchModel" ⟨"ChoraleSearchModel", "orderTo", "(II)I"⟩ ⟨"ChoraleSearchModel", "orderTo", "(II)I"⟩
def gp_86 : Cond := Cond.selects "ChoraleSearchModel" ⟨"ChoraleSearchModel", "costOfState", "(I)I"⟩ ⟨"ChoraleSearchModel", "costOfState", "(I)I"⟩
def gp_87 : Cond := Cond.selects "ChoraleSearchModel" ⟨"ChoraleSearchModel", "findAll", "()Z"⟩ ⟨"ChoraleSearchModel", "findAll", "()Z"⟩
def gp_88 : Cond := Cond.selects "ChoraleSearchModel" ⟨"ChoraleSearchModel", "goBack", "(I)Z"⟩ ⟨"ChoraleSearchModel", "goBack", "(I)Z"⟩
def gp_89 : Cond := Cond.selects "ChoraleSearchModel" ⟨"ChoraleSearchModel", "addWay", "(IIII)V"⟩ ⟨"ChoraleSearchModel", "addWay", "(IIII)V"⟩
def gp_90 : Cond := Cond.selects "ChoraleSearchModel" ⟨"ChoraleSearchModel", "isBehind", "(IIII)Z"⟩ ⟨"ChoraleSearchModel", "isBehind", "(IIII)Z"⟩
def gp_91 : Cond := Cond.selects "ChoraleSearchModel" ⟨"ChoraleSearchModel", "barsStep", "(II)I"⟩ ⟨"ChoraleSearchModel", "barsStep", "(II)I"⟩
def gp_92 : Cond := Cond.selects "ChoraleSearchModel" ⟨"ChoraleSearchModel", "costOfStep", "(II)I"⟩ ⟨"ChoraleSearchModel", "costOfStep", "(II)I"⟩
def gp_93 : Cond := Cond.selects "ChoraleSearchModel" ⟨"ChoraleSearchModel", "narrow", "(II)Z"⟩ ⟨"ChoraleSearchModel", "narrow", "(II)Z"⟩
def gp_94 : Cond := Cond.selects "ChoraleSearchModel" ⟨"ChoraleSearchModel", "takeRows", "()V"⟩ ⟨"ChoraleSearchModel", "takeRows", "()V"⟩
def gp_95 : Cond := Cond.selects "ChoraleSearchModel" ⟨"ChoraleSearchModel", "noRow", "(I)Z"⟩ ⟨"ChoraleSearchModel", "noRow", "(I)Z"⟩
def gp_96 : Cond := Cond.selects "ChoraleSearchModel" ⟨"ChoraleSearchModel", "firstBarred", "()I"⟩ ⟨"ChoraleSearchModel", "firstBarred", "()I"⟩
def gc_0 : List Cond := [gw_0, gw_1, gw_2, gw_3, gw_4, gw_5, gw_6, gw_7, gw_8, gw_9, gw_10, gw_11, gw_12, gw_13, gw_14, gw_15, gw_16, gw_17, gw_18, gw_19, gw_20, gw_21, gw_22, gw_23, gw_24, gw_25, gw_27, gw_28, gw_29, gw_30, gw_32, gw_33, gw_34, gw_39, gw_41, gw_44, gw_46, gw_49, gw_52, gw_55, gw_57, gw_59, gw_61, gw_63, gw_65, gw_67, gw_69, gw_71]
def gc_1 : List Cond := [gw_73, gw_75, gw_78, gw_79, gw_80, gw_81, gw_83, gw_84, gw_85, gw_86, gw_87, gw_88, gw_89, gw_91, gw_92, gw_93, gw_94, gw_95, gw_96, gw_97, gw_98, gw_99, gw_100, gw_102, gw_103, gw_104, gw_105, gw_106, gw_107, gw_109, gw_110, gw_111, gw_113, gw_115, gw_117, gw_119, gw_122, gw_123, gw_124, gw_125, gw_126, gw_128, gw_130, gw_132, gw_134, gw_136, gw_138, gw_141]
def gc_2 : List Cond := [gw_142, gw_144, gw_145, gw_146, gw_147, gw_148, gw_149, gw_150, gw_151, gw_152, gw_154, gw_156, gw_158, gw_160, gw_163, gw_164, gw_166, gw_167, gw_168, gw_169, gw_170, gw_171, gw_172, gw_173, gw_174, gw_176, gw_178, gw_180, gw_182, gw_185, gw_186, gw_188, gw_189, gw_190, gw_191, gw_193, gw_195, gw_196, gw_197, gw_198, gw_203, gw_206, gw_208, gw_210, gw_212, gw_215, gw_216, gw_217]
def gc_3 : List Cond := [gw_221, gw_222, gw_224, gw_226, gw_228, gw_231, gw_232, gw_234, gw_235, gw_236, gw_237, gw_239, gw_240, gw_241, gw_242, gw_243, gw_244, gw_246, gw_248, gw_250, gw_252, gw_255, gw_256, gw_257, gw_258, gw_260, gw_261, gw_262, gw_263, gw_264, gw_265, gw_267, gw_271, gw_272, gw_273, gw_274, gw_276, gw_277, gw_278, gw_279, gw_280, gw_281, gw_282, gw_283, gw_284, gw_285, gw_286, gw_287]
def gc_4 : List Cond := [gw_289, gw_290, gw_292, gw_294, gw_296, gw_298, gw_300, gw_302, gw_304, gw_306, gw_308, gw_310, gw_312, gw_314, gw_316, gw_318, gw_320, gw_322, gw_325, gw_326, gw_327, gw_328, gw_329, gw_330, gw_332, gw_334, gw_336, gw_338, gw_341, gw_342, gw_343, gw_344, gw_346, gw_348, gw_349, gw_352, gw_353, gw_356, gw_357, gw_358, gw_359, gw_360, gw_361, gw_363, gw_364, gw_365, gw_366, gw_367]
def gc_5 : List Cond := [gw_368, gw_369, gw_370, gw_372, gw_373, gw_374, gw_375, gw_376, gw_377, gw_379, gw_380, gw_381, gw_382, gw_383, gw_384, gw_385, gw_386, gw_387, gw_388, gw_389, gw_390, gw_391, gw_392, gw_393, gw_394, gw_395, gw_396, gw_397, gw_398, gw_399, gw_400, gw_401, gw_402, gw_403, gw_404, gw_405, gw_406, gw_407, gw_408, gw_409, gw_410, gw_411, gw_412, gw_413, gw_414, gw_415, gw_418, gw_419]
def gc_6 : List Cond := [gw_422, gw_423, gw_424, gw_426, gw_427, gw_430, gw_431, gw_432, gw_433, gw_434, gw_437, gw_438, gw_439, gw_440, gw_441, gw_444, gw_445, gw_446, gw_448, gw_449, gw_452, gw_453, gw_456, gw_457, gw_458, gw_459, gw_461, gw_463, gw_464, gw_465, gw_467, gw_468, gw_469, gw_471, gw_472, gw_475, gw_476, gw_477, gw_479, gw_480, gw_482, gw_483, gw_484, gw_486, gw_487, gw_490, gw_491, gw_493]
def gc_7 : List Cond := [gw_494, gw_497, gw_498, gw_501, gw_502, gw_505, gw_506, gw_509, gw_510, gw_511, gw_512, gw_514, gw_515, gw_516, gw_519, gw_520, gw_521, gw_524, gw_525, gw_526, gw_528, gw_529, gw_531, gw_532, gw_534, gw_535, gw_537, gw_539, gw_540, gw_541, gw_544, gw_545, gw_547, gw_550, gw_551, gw_552, gw_553, gw_555, gw_556, gw_559, gw_560, gw_561, gw_563, gw_564, gw_567, gw_568, gw_569, gw_571]
def gc_8 : List Cond := [gw_572, gw_575, gw_576, gw_577, gw_579, gw_580, gw_581, gw_583, gw_584, gw_585, gw_586, gw_587, gw_588, gw_590, gw_591, gw_592, gw_594, gw_595, gw_596, gw_598, gw_599, gw_600, gw_602, gw_603, gw_607, gw_608, gw_610, gw_611, gw_612, gw_613, gw_614, gw_615, gw_616, gw_617, gw_618, gw_620, gw_621, gw_622, gw_624, gw_625, gw_626, gw_628, gw_629, gw_630, gw_632, gw_633, gw_634, gw_636]
def gc_9 : List Cond := [gw_637, gw_638, gw_640, gw_641, gw_642, gw_644, gw_645, gw_646, gw_647, gw_648, gw_649, gw_650, gw_652, gw_653, gw_656, gw_657, gw_659, gw_660, gw_661, gw_662, gw_664, gw_665, gw_666, gw_667, gw_668, gw_669, gw_670, gw_671, gw_672, gw_673, gw_674, gw_675, gw_676, gw_677, gw_678, gw_679, gw_682, gw_683, gw_684, gw_686, gw_687, gw_689, gw_691, gw_692, gw_695, gw_696, gw_700, gw_701]
def gc_10 : List Cond := [gw_704, gw_705, gw_706, gw_708, gw_709, gw_710, gw_712, gw_713, gw_714, gw_716, gw_717, gw_718, gw_720, gw_721, gw_722, gw_724, gw_725, gw_726, gw_728, gw_729, gw_730, gw_732, gw_733, gw_734, gw_736, gw_737, gw_738, gw_740, gw_741, gw_742, gw_744, gw_745, gw_746, gw_748, gw_749, gw_752, gw_753, gw_754, gw_755, gw_756, gw_757, gw_760, gw_761, gw_762, gw_764, gw_765, gw_766, gw_768]
def gc_11 : List Cond := [gw_769, gw_772, gw_774, gw_775, gw_776, gw_777, gw_778, gw_779, gw_780, gw_781, gw_784, gw_785, gw_786, gw_787, gw_788, gw_789, gw_790, gw_791, gw_792, gw_795, gw_796, gw_797, gw_798, gw_799, gw_800, gw_801, gw_802, gw_803, gw_804, gw_805, gw_806, gw_808, gw_809, gw_810, gw_811, gw_812, gw_813, gw_814, gw_815, gw_816, gw_817, gw_818, gw_819, gw_820, gw_821, gw_822, gw_823, gw_824]
def gc_12 : List Cond := [gw_825, gw_826, gw_827, gw_828, gw_829, gw_830, gw_831, gw_832, gw_833, gw_834, gw_835, gw_836, gw_837, gw_838, gw_839, gw_840, gw_841, gw_842, gw_843, gw_844, gw_845, gw_846, gw_847, gw_848, gw_849, gw_850, gw_852, gw_854, gw_856, gw_858, gw_860, gw_862, gw_864, gw_866, gw_868, gw_870, gw_872, gw_874, gw_876, gw_878, gw_880, gw_882, gw_884, gw_886, gw_888, gw_890, gw_892, gw_894]
def gc_13 : List Cond := [gw_896, gw_898, gw_900, gw_902, gw_904, gw_906, gw_908, gw_910, gw_912, gw_914, gw_916, gw_918, gw_920, gw_923, gw_924, gw_925, gw_926, gw_927, gw_928, gw_929, gw_930, gw_931, gw_932, gw_933, gw_934, gw_935, gw_936, gw_937, gw_938, gw_939, gw_940, gw_941, gw_943, gw_944, gw_945, gw_946, gw_947, gw_948, gw_949, gw_950, gw_951, gw_952, gw_953, gw_954, gw_955, gw_956, gw_957, gw_958]
def gc_14 : List Cond := [gw_959, gw_960, gw_961, gw_962, gw_963, gw_964, gw_965, gw_966, gw_967, gw_968, gw_969, gw_970, gw_971, gw_972, gw_973, gw_974, gw_975, gw_976, gw_977, gw_978, gw_979, gw_980, gw_981, gw_982, gw_983, gw_985, gw_986, gw_987, gw_988, gw_989, gw_990, gw_991, gw_992, gw_993, gw_995, gw_996, gw_997, gw_999, gw_1000, gw_1001, gw_1003, gw_1004, gw_1005, gw_1007, gw_1008, gw_1009, gw_1011, gw_1012]
def gc_15 : List Cond := [gw_1013, gw_1015, gw_1016, gw_1017, gw_1019, gw_1020, gw_1021, gw_1023, gw_1024, gw_1025, gw_1026, gw_1027, gw_1028, gw_1029, gw_1030, gw_1032, gw_1033, gw_1034, gw_1036, gw_1037, gw_1038, gw_1040, gw_1041, gw_1042, gw_1044, gw_1045, gw_1046, gw_1048, gw_1049, gw_1050, gw_1051, gw_1052, gw_1053, gw_1054, gw_1055, gw_1056, gw_1057, gw_1058, gw_1059, gw_1060, gw_1061, gw_1062, gw_1064, gw_1065, gw_1066, gw_1068, gw_1069, gw_1070]
def gc_16 : List Cond := [gw_1072, gw_1073, gw_1074, gw_1075, gw_1076, gw_1077, gw_1078, gw_1080, gw_1081, gw_1082, gw_1083, gw_1084, gw_1085, gw_1086, gw_1087, gw_1088, gw_1089, gw_1090, gw_1091, gw_1092, gw_1093, gw_1094, gw_1095, gw_1096, gw_1097, gw_1098, gw_1099, gw_1101, gw_1102, gw_1103, gw_1104, gw_1105, gw_1106, gw_1107, gw_1108, gw_1109, gw_1110, gw_1111, gw_1112, gw_1113, gw_1114, gw_1115, gw_1116, gw_1117, gw_1118, gp_0, gp_1, gp_2]
def gc_17 : List Cond := [gp_3, gp_4, gp_5, gp_6, gp_7, gp_8, gp_9, gp_10, gp_11, gp_12, gp_13, gp_14, gp_15, gp_16, gp_17, gp_18, gp_19, gp_20, gp_21, gp_22, gp_23, gp_24, gp_25, gp_26, gp_27, gp_28, gp_29, gp_30, gp_31, gp_32, gp_33, gp_34, gp_35, gp_36, gp_37, gp_38, gp_39, gp_40, gp_41, gp_42, gp_43, gp_44, gp_45, gp_46, gp_47, gp_48, gp_49, gp_50]
def gc_18 : List Cond := [gp_51, gp_52, gp_53, gp_54, gp_55, gp_56, gp_57, gp_58, gp_59, gp_60, gp_61, gp_62, gp_63, gp_64, gp_65, gp_66, gp_67, gp_68, gp_69, gp_70, gp_71, gp_72, gp_73, gp_74, gp_75, gp_76, gp_77, gp_78, gp_79, gp_80, gp_81, gp_82, gp_83, gp_84, gp_85, gp_86, gp_87, gp_88, gp_89, gp_90, gp_91, gp_92, gp_93, gp_94, gp_95, gp_96]
def ri_gT : List Cond := gc_0 ++ (gc_1 ++ (gc_2 ++ (gc_3 ++ (gc_4 ++ (gc_5 ++ (gc_6 ++ (gc_7 ++ (gc_8 ++ (gc_9 ++ (gc_10 ++ (gc_11 ++ (gc_12 ++ (gc_13 ++ (gc_14 ++ (gc_15 ++ (gc_16 ++ (gc_17 ++ (gc_18))))))))))))))))))
theorem gi_0 : ∀ w ∈ gc_0, w ∈ ri_gT := fun _ h => List.mem_append_left _ h
theorem gi_1 : ∀ w ∈ gc_1, w ∈ ri_gT := fun _ h => List.mem_append_right _ (List.mem_append_left _ h)
theorem gi_2 : ∀ w ∈ gc_2, w ∈ ri_gT := fun _ h => List.mem_append_right _ (List.mem_append_right _ (List.mem_append_left _ h))
theorem gi_3 : ∀ w ∈ gc_3, w ∈ ri_gT := fun _ h => List.mem_append_right _ (List.mem_append_right _ (List.mem_append_right _ (List.mem_append_left _ h)))
theorem gi_4 : ∀ w ∈ gc_4, w ∈ ri_gT := fun _ h => List.mem_append_right _ (List.mem_append_right _ (List.mem_append_right _ (List.mem_append_right _ (List.mem_append_left _ h))))
theorem gi_5 : ∀ w ∈ gc_5, w ∈ ri_gT := fun _ h => List.mem_append_right _ (List.mem_append_right _ (List.mem_append_right _ (List.mem_append_right _ (List.mem_append_right _ (List.mem_append_left _ h)))))
theorem gi_6 : ∀ w ∈ gc_6, w ∈ ri_gT := fun _ h => List.mem_append_right _ (List.mem_append_right _ (List.mem_append_right _ (List.mem_append_right _ (List.mem_append_right _ (List.mem_append_right _ (List.mem_append_left _ h))))))
theorem gi_7 : ∀ w ∈ gc_7, w ∈ ri_gT := fun _ h => List.mem_append_right _ (List.mem_append_right _ (List.mem_append_right _ (List.mem_append_right _ (List.mem_append_right _ (List.mem_append_right _ (List.mem_append_right _ (List.mem_append_left _ h)))))))
theorem gi_8 : ∀ w ∈ gc_8, w ∈ ri_gT := fun _ h => List.mem_append_right _ (List.mem_append_right _ (List.mem_append_right _ (List.mem_append_right _ (List.mem_append_right _ (List.mem_append_right _ (List.mem_append_right _ (List.mem_append_right _ (List.mem_append_left _ h))))))))
theorem gi_9 : ∀ w ∈ gc_9, w ∈ ri_gT := fun _ h => List.mem_append_right _ (List.mem_append_right _ (List.mem_append_right _ (List.mem_append_right _ (List.mem_append_right _ (List.mem_append_right _ (List.mem_append_right _ (List.mem_append_right _ (List.mem_append_right _ (List.mem_append_left _ h)))))))))
theorem gi_10 : ∀ w ∈ gc_10, w ∈ ri_gT := fun _ h => List.mem_append_right _ (List.mem_append_right _ (List.mem_append_right _ (List.mem_append_right _ (List.mem_append_right _ (List.mem_append_right _ (List.mem_append_right _ (List.mem_append_right _ (List.mem_append_right _ (List.mem_append_right _ (List.mem_append_left _ h))))))))))
theorem gi_11 : ∀ w ∈ gc_11, w ∈ ri_gT := fun _ h => List.mem_append_right _ (List.mem_append_right _ (List.mem_append_right _ (List.mem_append_right _ (List.mem_append_right _ (List.mem_append_right _ (List.mem_append_right _ (List.mem_append_right _ (List.mem_append_right _ (List.mem_append_right _ (List.mem_append_right _ (List.mem_append_left _ h)))))))))))
theorem gi_12 : ∀ w ∈ gc_12, w ∈ ri_gT := fun _ h => List.mem_append_right _ (List.mem_append_right _ (List.mem_append_right _ (List.mem_append_right _ (List.mem_append_right _ (List.mem_append_right _ (List.mem_append_right _ (List.mem_append_right _ (List.mem_append_right _ (List.mem_append_right _ (List.mem_append_right _ (List.mem_append_right _ (List.mem_append_left _ h))))))))))))
theorem gi_13 : ∀ w ∈ gc_13, w ∈ ri_gT := fun _ h => List.mem_append_right _ (List.mem_append_right _ (List.mem_append_right _ (List.mem_append_right _ (List.mem_append_right _ (List.mem_append_right _ (List.mem_append_right _ (List.mem_append_right _ (List.mem_append_right _ (List.mem_append_right _ (List.mem_append_right _ (List.mem_append_right _ (List.mem_append_right _ (List.mem_append_left _ h)))))))))))))
theorem gi_14 : ∀ w ∈ gc_14, w ∈ ri_gT := fun _ h => List.mem_append_right _ (List.mem_append_right _ (List.mem_append_right _ (List.mem_append_right _ (List.mem_append_right _ (List.mem_append_right _ (List.mem_append_right _ (List.mem_append_right _ (List.mem_append_right _ (List.mem_append_right _ (List.mem_append_right _ (List.mem_append_right _ (List.mem_append_right _ (List.mem_append_right _ (List.mem_append_left _ h))))))))))))))
theorem gi_15 : ∀ w ∈ gc_15, w ∈ ri_gT := fun _ h => List.mem_append_right _ (List.mem_append_right _ (List.mem_append_right _ (List.mem_append_right _ (List.mem_append_right _ (List.mem_append_right _ (List.mem_append_right _ (List.mem_append_right _ (List.mem_append_right _ (List.mem_append_right _ (List.mem_append_right _ (List.mem_append_right _ (List.mem_append_right _ (List.mem_append_right _ (List.mem_append_right _ (List.mem_append_left _ h)))))))))))))))
theorem gi_16 : ∀ w ∈ gc_16, w ∈ ri_gT := fun _ h => List.mem_append_right _ (List.mem_append_right _ (List.mem_append_right _ (List.mem_append_right _ (List.mem_append_right _ (List.mem_append_right _ (List.mem_append_right _ (List.mem_append_right _ (List.mem_append_right _ (List.mem_append_right _ (List.mem_append_right _ (List.mem_append_right _ (List.mem_append_right _ (List.mem_append_right _ (List.mem_append_right _ (List.mem_append_right _ (List.mem_append_left _ h))))))))))))))))
theorem gi_17 : ∀ w ∈ gc_17, w ∈ ri_gT := fun _ h => List.mem_append_right _ (List.mem_append_right _ (List.mem_append_right _ (List.mem_append_right _ (List.mem_append_right _ (List.mem_append_right _ (List.mem_append_right _ (List.mem_append_right _ (List.mem_append_right _ (List.mem_append_right _ (List.mem_append_right _ (List.mem_append_right _ (List.mem_append_right _ (List.mem_append_right _ (List.mem_append_right _ (List.mem_append_right _ (List.mem_append_right _ (List.mem_append_left _ h)))))))))))))))))
theorem gi_18 : ∀ w ∈ gc_18, w ∈ ri_gT := fun _ h => List.mem_append_right _ (List.mem_append_right _ (List.mem_append_right _ (List.mem_append_right _ (List.mem_append_right _ (List.mem_append_right _ (List.mem_append_right _ (List.mem_append_right _ (List.mem_append_right _ (List.mem_append_right _ (List.mem_append_right _ (List.mem_append_right _ (List.mem_append_right _ (List.mem_append_right _ (List.mem_append_right _ (List.mem_append_right _ (List.mem_append_right _ (List.mem_append_right _ (h))))))))))))))))))
theorem mgw_0 : gw_0 ∈ ri_gT := gi_0 _ (List.mem_of_getElem? (i := 0) rfl)
theorem mgw_1 : gw_1 ∈ ri_gT := gi_0 _ (List.mem_of_getElem? (i := 1) rfl)
theorem mgw_2 : gw_2 ∈ ri_gT := gi_0 _ (List.mem_of_getElem? (i := 2) rfl)
theorem mgw_3 : gw_3 ∈ ri_gT := gi_0 _ (List.mem_of_getElem? (i := 3) rfl)
theorem mgw_4 : gw_4 ∈ ri_gT := gi_0 _ (List.mem_of_getElem? (i := 4) rfl)
theorem mgw_5 : gw_5 ∈ ri_gT := gi_0 _ (List.mem_of_getElem? (i := 5) rfl)
theorem mgw_6 : gw_6 ∈ ri_gT := gi_0 _ (List.mem_of_getElem? (i := 6) rfl)
theorem mgw_7 : gw_7 ∈ ri_gT := gi_0 _ (List.mem_of_getElem? (i := 7) rfl)
theorem mgw_8 : gw_8 ∈ ri_gT := gi_0 _ (List.mem_of_getElem? (i := 8) rfl)
theorem mgw_9 : gw_9 ∈ ri_gT := gi_0 _ (List.mem_of_getElem? (i := 9) rfl)
theorem mgw_10 : gw_10 ∈ ri_gT := gi_0 _ (List.mem_of_getElem? (i := 10) rfl)
theorem mgw_11 : gw_11 ∈ ri_gT := gi_0 _ (List.mem_of_getElem? (i := 11) rfl)
theorem mgw_12 : gw_12 ∈ ri_gT := gi_0 _ (List.mem_of_getElem? (i := 12) rfl)
theorem mgw_13 : gw_13 ∈ ri_gT := gi_0 _ (List.mem_of_getElem? (i := 13) rfl)
theorem mgw_14 : gw_14 ∈ ri_gT := gi_0 _ (List.mem_of_getElem? (i := 14) rfl)
theorem mgw_15 : gw_15 ∈ ri_gT := gi_0 _ (List.mem_of_getElem? (i := 15) rfl)
theorem mgw_16 : gw_16 ∈ ri_gT := gi_0 _ (List.mem_of_getElem? (i := 16) rfl)
theorem mgw_17 : gw_17 ∈ ri_gT := gi_0 _ (List.mem_of_getElem? (i := 17) rfl)
theorem mgw_18 : gw_18 ∈ ri_gT := gi_0 _ (List.mem_of_getElem? (i := 18) rfl)
theorem mgw_19 : gw_19 ∈ ri_gT := gi_0 _ (List.mem_of_getElem? (i := 19) rfl)
theorem mgw_20 : gw_20 ∈ ri_gT := gi_0 _ (List.mem_of_getElem? (i := 20) rfl)
theorem mgw_21 : gw_21 ∈ ri_gT := gi_0 _ (List.mem_of_getElem? (i := 21) rfl)
theorem mgw_22 : gw_22 ∈ ri_gT := gi_0 _ (List.mem_of_getElem? (i := 22) rfl)
theorem mgw_23 : gw_23 ∈ ri_gT := gi_0 _ (List.mem_of_getElem? (i := 23) rfl)
theorem mgw_24 : gw_24 ∈ ri_gT := gi_0 _ (List.mem_of_getElem? (i := 24) rfl)
theorem mgw_25 : gw_25 ∈ ri_gT := gi_0 _ (List.mem_of_getElem? (i := 25) rfl)
theorem mgw_27 : gw_27 ∈ ri_gT := gi_0 _ (List.mem_of_getElem? (i := 26) rfl)
theorem mgw_28 : gw_28 ∈ ri_gT := gi_0 _ (List.mem_of_getElem? (i := 27) rfl)
theorem mgw_29 : gw_29 ∈ ri_gT := gi_0 _ (List.mem_of_getElem? (i := 28) rfl)
theorem mgw_30 : gw_30 ∈ ri_gT := gi_0 _ (List.mem_of_getElem? (i := 29) rfl)
theorem mgw_32 : gw_32 ∈ ri_gT := gi_0 _ (List.mem_of_getElem? (i := 30) rfl)
theorem mgw_33 : gw_33 ∈ ri_gT := gi_0 _ (List.mem_of_getElem? (i := 31) rfl)
theorem mgw_34 : gw_34 ∈ ri_gT := gi_0 _ (List.mem_of_getElem? (i := 32) rfl)
theorem mgw_39 : gw_39 ∈ ri_gT := gi_0 _ (List.mem_of_getElem? (i := 33) rfl)
theorem mgw_41 : gw_41 ∈ ri_gT := gi_0 _ (List.mem_of_getElem? (i := 34) rfl)
theorem mgw_44 : gw_44 ∈ ri_gT := gi_0 _ (List.mem_of_getElem? (i := 35) rfl)
theorem mgw_46 : gw_46 ∈ ri_gT := gi_0 _ (List.mem_of_getElem? (i := 36) rfl)
theorem mgw_49 : gw_49 ∈ ri_gT := gi_0 _ (List.mem_of_getElem? (i := 37) rfl)
theorem mgw_52 : gw_52 ∈ ri_gT := gi_0 _ (List.mem_of_getElem? (i := 38) rfl)
theorem mgw_55 : gw_55 ∈ ri_gT := gi_0 _ (List.mem_of_getElem? (i := 39) rfl)
theorem mgw_57 : gw_57 ∈ ri_gT := gi_0 _ (List.mem_of_getElem? (i := 40) rfl)
theorem mgw_59 : gw_59 ∈ ri_gT := gi_0 _ (List.mem_of_getElem? (i := 41) rfl)
theorem mgw_61 : gw_61 ∈ ri_gT := gi_0 _ (List.mem_of_getElem? (i := 42) rfl)
theorem mgw_63 : gw_63 ∈ ri_gT := gi_0 _ (List.mem_of_getElem? (i := 43) rfl)
theorem mgw_65 : gw_65 ∈ ri_gT := gi_0 _ (List.mem_of_getElem? (i := 44) rfl)
theorem mgw_67 : gw_67 ∈ ri_gT := gi_0 _ (List.mem_of_getElem? (i := 45) rfl)
theorem mgw_69 : gw_69 ∈ ri_gT := gi_0 _ (List.mem_of_getElem? (i := 46) rfl)
theorem mgw_71 : gw_71 ∈ ri_gT := gi_0 _ (List.mem_of_getElem? (i := 47) rfl)
theorem mgw_73 : gw_73 ∈ ri_gT := gi_1 _ (List.mem_of_getElem? (i := 0) rfl)
theorem mgw_75 : gw_75 ∈ ri_gT := gi_1 _ (List.mem_of_getElem? (i := 1) rfl)
theorem mgw_78 : gw_78 ∈ ri_gT := gi_1 _ (List.mem_of_getElem? (i := 2) rfl)
theorem mgw_79 : gw_79 ∈ ri_gT := gi_1 _ (List.mem_of_getElem? (i := 3) rfl)
theorem mgw_80 : gw_80 ∈ ri_gT := gi_1 _ (List.mem_of_getElem? (i := 4) rfl)
theorem mgw_81 : gw_81 ∈ ri_gT := gi_1 _ (List.mem_of_getElem? (i := 5) rfl)
theorem mgw_83 : gw_83 ∈ ri_gT := gi_1 _ (List.mem_of_getElem? (i := 6) rfl)
theorem mgw_84 : gw_84 ∈ ri_gT := gi_1 _ (List.mem_of_getElem? (i := 7) rfl)
theorem mgw_85 : gw_85 ∈ ri_gT := gi_1 _ (List.mem_of_getElem? (i := 8) rfl)
theorem mgw_86 : gw_86 ∈ ri_gT := gi_1 _ (List.mem_of_getElem? (i := 9) rfl)
theorem mgw_87 : gw_87 ∈ ri_gT := gi_1 _ (List.mem_of_getElem? (i := 10) rfl)
theorem mgw_88 : gw_88 ∈ ri_gT := gi_1 _ (List.mem_of_getElem? (i := 11) rfl)
theorem mgw_89 : gw_89 ∈ ri_gT := gi_1 _ (List.mem_of_getElem? (i := 12) rfl)
theorem mgw_91 : gw_91 ∈ ri_gT := gi_1 _ (List.mem_of_getElem? (i := 13) rfl)
theorem mgw_92 : gw_92 ∈ ri_gT := gi_1 _ (List.mem_of_getElem? (i := 14) rfl)
theorem mgw_93 : gw_93 ∈ ri_gT := gi_1 _ (List.mem_of_getElem? (i := 15) rfl)
theorem mgw_94 : gw_94 ∈ ri_gT := gi_1 _ (List.mem_of_getElem? (i := 16) rfl)
theorem mgw_95 : gw_95 ∈ ri_gT := gi_1 _ (List.mem_of_getElem? (i := 17) rfl)
theorem mgw_96 : gw_96 ∈ ri_gT := gi_1 _ (List.mem_of_getElem? (i := 18) rfl)
theorem mgw_97 : gw_97 ∈ ri_gT := gi_1 _ (List.mem_of_getElem? (i := 19) rfl)
theorem mgw_98 : gw_98 ∈ ri_gT := gi_1 _ (List.mem_of_getElem? (i := 20) rfl)
theorem mgw_99 : gw_99 ∈ ri_gT := gi_1 _ (List.mem_of_getElem? (i := 21) rfl)
theorem mgw_100 : gw_100 ∈ ri_gT := gi_1 _ (List.mem_of_getElem? (i := 22) rfl)
theorem mgw_102 : gw_102 ∈ ri_gT := gi_1 _ (List.mem_of_getElem? (i := 23) rfl)
theorem mgw_103 : gw_103 ∈ ri_gT := gi_1 _ (List.mem_of_getElem? (i := 24) rfl)
theorem mgw_104 : gw_104 ∈ ri_gT := gi_1 _ (List.mem_of_getElem? (i := 25) rfl)
theorem mgw_105 : gw_105 ∈ ri_gT := gi_1 _ (List.mem_of_getElem? (i := 26) rfl)
theorem mgw_106 : gw_106 ∈ ri_gT := gi_1 _ (List.mem_of_getElem? (i := 27) rfl)
theorem mgw_107 : gw_107 ∈ ri_gT := gi_1 _ (List.mem_of_getElem? (i := 28) rfl)
theorem mgw_109 : gw_109 ∈ ri_gT := gi_1 _ (List.mem_of_getElem? (i := 29) rfl)
theorem mgw_110 : gw_110 ∈ ri_gT := gi_1 _ (List.mem_of_getElem? (i := 30) rfl)
theorem mgw_111 : gw_111 ∈ ri_gT := gi_1 _ (List.mem_of_getElem? (i := 31) rfl)
theorem mgw_113 : gw_113 ∈ ri_gT := gi_1 _ (List.mem_of_getElem? (i := 32) rfl)
theorem mgw_115 : gw_115 ∈ ri_gT := gi_1 _ (List.mem_of_getElem? (i := 33) rfl)
theorem mgw_117 : gw_117 ∈ ri_gT := gi_1 _ (List.mem_of_getElem? (i := 34) rfl)
theorem mgw_119 : gw_119 ∈ ri_gT := gi_1 _ (List.mem_of_getElem? (i := 35) rfl)
theorem mgw_122 : gw_122 ∈ ri_gT := gi_1 _ (List.mem_of_getElem? (i := 36) rfl)
theorem mgw_123 : gw_123 ∈ ri_gT := gi_1 _ (List.mem_of_getElem? (i := 37) rfl)
theorem mgw_124 : gw_124 ∈ ri_gT := gi_1 _ (List.mem_of_getElem? (i := 38) rfl)
theorem mgw_125 : gw_125 ∈ ri_gT := gi_1 _ (List.mem_of_getElem? (i := 39) rfl)
theorem mgw_126 : gw_126 ∈ ri_gT := gi_1 _ (List.mem_of_getElem? (i := 40) rfl)
theorem mgw_128 : gw_128 ∈ ri_gT := gi_1 _ (List.mem_of_getElem? (i := 41) rfl)
theorem mgw_130 : gw_130 ∈ ri_gT := gi_1 _ (List.mem_of_getElem? (i := 42) rfl)
theorem mgw_132 : gw_132 ∈ ri_gT := gi_1 _ (List.mem_of_getElem? (i := 43) rfl)
theorem mgw_134 : gw_134 ∈ ri_gT := gi_1 _ (List.mem_of_getElem? (i := 44) rfl)
theorem mgw_136 : gw_136 ∈ ri_gT := gi_1 _ (List.mem_of_getElem? (i := 45) rfl)
theorem mgw_138 : gw_138 ∈ ri_gT := gi_1 _ (List.mem_of_getElem? (i := 46) rfl)
theorem mgw_141 : gw_141 ∈ ri_gT := gi_1 _ (List.mem_of_getElem? (i := 47) rfl)
theorem mgw_142 : gw_142 ∈ ri_gT := gi_2 _ (List.mem_of_getElem? (i := 0) rfl)
theorem mgw_144 : gw_144 ∈ ri_gT := gi_2 _ (List.mem_of_getElem? (i := 1) rfl)
theorem mgw_145 : gw_145 ∈ ri_gT := gi_2 _ (List.mem_of_getElem? (i := 2) rfl)
theorem mgw_146 : gw_146 ∈ ri_gT := gi_2 _ (List.mem_of_getElem? (i := 3) rfl)
theorem mgw_147 : gw_147 ∈ ri_gT := gi_2 _ (List.mem_of_getElem? (i := 4) rfl)
theorem mgw_148 : gw_148 ∈ ri_gT := gi_2 _ (List.mem_of_getElem? (i := 5) rfl)
theorem mgw_149 : gw_149 ∈ ri_gT := gi_2 _ (List.mem_of_getElem? (i := 6) rfl)
theorem mgw_150 : gw_150 ∈ ri_gT := gi_2 _ (List.mem_of_getElem? (i := 7) rfl)
theorem mgw_151 : gw_151 ∈ ri_gT := gi_2 _ (List.mem_of_getElem? (i := 8) rfl)
theorem mgw_152 : gw_152 ∈ ri_gT := gi_2 _ (List.mem_of_getElem? (i := 9) rfl)
theorem mgw_154 : gw_154 ∈ ri_gT := gi_2 _ (List.mem_of_getElem? (i := 10) rfl)
theorem mgw_156 : gw_156 ∈ ri_gT := gi_2 _ (List.mem_of_getElem? (i := 11) rfl)
theorem mgw_158 : gw_158 ∈ ri_gT := gi_2 _ (List.mem_of_getElem? (i := 12) rfl)
theorem mgw_160 : gw_160 ∈ ri_gT := gi_2 _ (List.mem_of_getElem? (i := 13) rfl)
theorem mgw_163 : gw_163 ∈ ri_gT := gi_2 _ (List.mem_of_getElem? (i := 14) rfl)
theorem mgw_164 : gw_164 ∈ ri_gT := gi_2 _ (List.mem_of_getElem? (i := 15) rfl)
theorem mgw_166 : gw_166 ∈ ri_gT := gi_2 _ (List.mem_of_getElem? (i := 16) rfl)
theorem mgw_167 : gw_167 ∈ ri_gT := gi_2 _ (List.mem_of_getElem? (i := 17) rfl)
theorem mgw_168 : gw_168 ∈ ri_gT := gi_2 _ (List.mem_of_getElem? (i := 18) rfl)
theorem mgw_169 : gw_169 ∈ ri_gT := gi_2 _ (List.mem_of_getElem? (i := 19) rfl)
theorem mgw_170 : gw_170 ∈ ri_gT := gi_2 _ (List.mem_of_getElem? (i := 20) rfl)
theorem mgw_171 : gw_171 ∈ ri_gT := gi_2 _ (List.mem_of_getElem? (i := 21) rfl)
theorem mgw_172 : gw_172 ∈ ri_gT := gi_2 _ (List.mem_of_getElem? (i := 22) rfl)
theorem mgw_173 : gw_173 ∈ ri_gT := gi_2 _ (List.mem_of_getElem? (i := 23) rfl)
theorem mgw_174 : gw_174 ∈ ri_gT := gi_2 _ (List.mem_of_getElem? (i := 24) rfl)
theorem mgw_176 : gw_176 ∈ ri_gT := gi_2 _ (List.mem_of_getElem? (i := 25) rfl)
theorem mgw_178 : gw_178 ∈ ri_gT := gi_2 _ (List.mem_of_getElem? (i := 26) rfl)
theorem mgw_180 : gw_180 ∈ ri_gT := gi_2 _ (List.mem_of_getElem? (i := 27) rfl)
theorem mgw_182 : gw_182 ∈ ri_gT := gi_2 _ (List.mem_of_getElem? (i := 28) rfl)
theorem mgw_185 : gw_185 ∈ ri_gT := gi_2 _ (List.mem_of_getElem? (i := 29) rfl)
theorem mgw_186 : gw_186 ∈ ri_gT := gi_2 _ (List.mem_of_getElem? (i := 30) rfl)
theorem mgw_188 : gw_188 ∈ ri_gT := gi_2 _ (List.mem_of_getElem? (i := 31) rfl)
theorem mgw_189 : gw_189 ∈ ri_gT := gi_2 _ (List.mem_of_getElem? (i := 32) rfl)
theorem mgw_190 : gw_190 ∈ ri_gT := gi_2 _ (List.mem_of_getElem? (i := 33) rfl)
theorem mgw_191 : gw_191 ∈ ri_gT := gi_2 _ (List.mem_of_getElem? (i := 34) rfl)
theorem mgw_193 : gw_193 ∈ ri_gT := gi_2 _ (List.mem_of_getElem? (i := 35) rfl)
theorem mgw_195 : gw_195 ∈ ri_gT := gi_2 _ (List.mem_of_getElem? (i := 36) rfl)
theorem mgw_196 : gw_196 ∈ ri_gT := gi_2 _ (List.mem_of_getElem? (i := 37) rfl)
theorem mgw_197 : gw_197 ∈ ri_gT := gi_2 _ (List.mem_of_getElem? (i := 38) rfl)
theorem mgw_198 : gw_198 ∈ ri_gT := gi_2 _ (List.mem_of_getElem? (i := 39) rfl)
theorem mgw_203 : gw_203 ∈ ri_gT := gi_2 _ (List.mem_of_getElem? (i := 40) rfl)
theorem mgw_206 : gw_206 ∈ ri_gT := gi_2 _ (List.mem_of_getElem? (i := 41) rfl)
theorem mgw_208 : gw_208 ∈ ri_gT := gi_2 _ (List.mem_of_getElem? (i := 42) rfl)
theorem mgw_210 : gw_210 ∈ ri_gT := gi_2 _ (List.mem_of_getElem? (i := 43) rfl)
theorem mgw_212 : gw_212 ∈ ri_gT := gi_2 _ (List.mem_of_getElem? (i := 44) rfl)
theorem mgw_215 : gw_215 ∈ ri_gT := gi_2 _ (List.mem_of_getElem? (i := 45) rfl)
theorem mgw_216 : gw_216 ∈ ri_gT := gi_2 _ (List.mem_of_getElem? (i := 46) rfl)
theorem mgw_217 : gw_217 ∈ ri_gT := gi_2 _ (List.mem_of_getElem? (i := 47) rfl)
theorem mgw_221 : gw_221 ∈ ri_gT := gi_3 _ (List.mem_of_getElem? (i := 0) rfl)
theorem mgw_222 : gw_222 ∈ ri_gT := gi_3 _ (List.mem_of_getElem? (i := 1) rfl)
theorem mgw_224 : gw_224 ∈ ri_gT := gi_3 _ (List.mem_of_getElem? (i := 2) rfl)
theorem mgw_226 : gw_226 ∈ ri_gT := gi_3 _ (List.mem_of_getElem? (i := 3) rfl)
theorem mgw_228 : gw_228 ∈ ri_gT := gi_3 _ (List.mem_of_getElem? (i := 4) rfl)
theorem mgw_231 : gw_231 ∈ ri_gT := gi_3 _ (List.mem_of_getElem? (i := 5) rfl)
theorem mgw_232 : gw_232 ∈ ri_gT := gi_3 _ (List.mem_of_getElem? (i := 6) rfl)
theorem mgw_234 : gw_234 ∈ ri_gT := gi_3 _ (List.mem_of_getElem? (i := 7) rfl)
theorem mgw_235 : gw_235 ∈ ri_gT := gi_3 _ (List.mem_of_getElem? (i := 8) rfl)
theorem mgw_236 : gw_236 ∈ ri_gT := gi_3 _ (List.mem_of_getElem? (i := 9) rfl)
theorem mgw_237 : gw_237 ∈ ri_gT := gi_3 _ (List.mem_of_getElem? (i := 10) rfl)
theorem mgw_239 : gw_239 ∈ ri_gT := gi_3 _ (List.mem_of_getElem? (i := 11) rfl)
theorem mgw_240 : gw_240 ∈ ri_gT := gi_3 _ (List.mem_of_getElem? (i := 12) rfl)
theorem mgw_241 : gw_241 ∈ ri_gT := gi_3 _ (List.mem_of_getElem? (i := 13) rfl)
theorem mgw_242 : gw_242 ∈ ri_gT := gi_3 _ (List.mem_of_getElem? (i := 14) rfl)
theorem mgw_243 : gw_243 ∈ ri_gT := gi_3 _ (List.mem_of_getElem? (i := 15) rfl)
theorem mgw_244 : gw_244 ∈ ri_gT := gi_3 _ (List.mem_of_getElem? (i := 16) rfl)
theorem mgw_246 : gw_246 ∈ ri_gT := gi_3 _ (List.mem_of_getElem? (i := 17) rfl)
theorem mgw_248 : gw_248 ∈ ri_gT := gi_3 _ (List.mem_of_getElem? (i := 18) rfl)
theorem mgw_250 : gw_250 ∈ ri_gT := gi_3 _ (List.mem_of_getElem? (i := 19) rfl)
theorem mgw_252 : gw_252 ∈ ri_gT := gi_3 _ (List.mem_of_getElem? (i := 20) rfl)
theorem mgw_255 : gw_255 ∈ ri_gT := gi_3 _ (List.mem_of_getElem? (i := 21) rfl)
theorem mgw_256 : gw_256 ∈ ri_gT := gi_3 _ (List.mem_of_getElem? (i := 22) rfl)
theorem mgw_257 : gw_257 ∈ ri_gT := gi_3 _ (List.mem_of_getElem? (i := 23) rfl)
theorem mgw_258 : gw_258 ∈ ri_gT := gi_3 _ (List.mem_of_getElem? (i := 24) rfl)
theorem mgw_260 : gw_260 ∈ ri_gT := gi_3 _ (List.mem_of_getElem? (i := 25) rfl)
theorem mgw_261 : gw_261 ∈ ri_gT := gi_3 _ (List.mem_of_getElem? (i := 26) rfl)
theorem mgw_262 : gw_262 ∈ ri_gT := gi_3 _ (List.mem_of_getElem? (i := 27) rfl)
theorem mgw_263 : gw_263 ∈ ri_gT := gi_3 _ (List.mem_of_getElem? (i := 28) rfl)
theorem mgw_264 : gw_264 ∈ ri_gT := gi_3 _ (List.mem_of_getElem? (i := 29) rfl)
theorem mgw_265 : gw_265 ∈ ri_gT := gi_3 _ (List.mem_of_getElem? (i := 30) rfl)
theorem mgw_267 : gw_267 ∈ ri_gT := gi_3 _ (List.mem_of_getElem? (i := 31) rfl)
theorem mgw_271 : gw_271 ∈ ri_gT := gi_3 _ (List.mem_of_getElem? (i := 32) rfl)
theorem mgw_272 : gw_272 ∈ ri_gT := gi_3 _ (List.mem_of_getElem? (i := 33) rfl)
theorem mgw_273 : gw_273 ∈ ri_gT := gi_3 _ (List.mem_of_getElem? (i := 34) rfl)
theorem mgw_274 : gw_274 ∈ ri_gT := gi_3 _ (List.mem_of_getElem? (i := 35) rfl)
theorem mgw_276 : gw_276 ∈ ri_gT := gi_3 _ (List.mem_of_getElem? (i := 36) rfl)
theorem mgw_277 : gw_277 ∈ ri_gT := gi_3 _ (List.mem_of_getElem? (i := 37) rfl)
theorem mgw_278 : gw_278 ∈ ri_gT := gi_3 _ (List.mem_of_getElem? (i := 38) rfl)
theorem mgw_279 : gw_279 ∈ ri_gT := gi_3 _ (List.mem_of_getElem? (i := 39) rfl)
theorem mgw_280 : gw_280 ∈ ri_gT := gi_3 _ (List.mem_of_getElem? (i := 40) rfl)
theorem mgw_281 : gw_281 ∈ ri_gT := gi_3 _ (List.mem_of_getElem? (i := 41) rfl)
theorem mgw_282 : gw_282 ∈ ri_gT := gi_3 _ (List.mem_of_getElem? (i := 42) rfl)
theorem mgw_283 : gw_283 ∈ ri_gT := gi_3 _ (List.mem_of_getElem? (i := 43) rfl)
theorem mgw_284 : gw_284 ∈ ri_gT := gi_3 _ (List.mem_of_getElem? (i := 44) rfl)
theorem mgw_285 : gw_285 ∈ ri_gT := gi_3 _ (List.mem_of_getElem? (i := 45) rfl)
theorem mgw_286 : gw_286 ∈ ri_gT := gi_3 _ (List.mem_of_getElem? (i := 46) rfl)
theorem mgw_287 : gw_287 ∈ ri_gT := gi_3 _ (List.mem_of_getElem? (i := 47) rfl)
theorem mgw_289 : gw_289 ∈ ri_gT := gi_4 _ (List.mem_of_getElem? (i := 0) rfl)
theorem mgw_290 : gw_290 ∈ ri_gT := gi_4 _ (List.mem_of_getElem? (i := 1) rfl)
theorem mgw_292 : gw_292 ∈ ri_gT := gi_4 _ (List.mem_of_getElem? (i := 2) rfl)
theorem mgw_294 : gw_294 ∈ ri_gT := gi_4 _ (List.mem_of_getElem? (i := 3) rfl)
theorem mgw_296 : gw_296 ∈ ri_gT := gi_4 _ (List.mem_of_getElem? (i := 4) rfl)
theorem mgw_298 : gw_298 ∈ ri_gT := gi_4 _ (List.mem_of_getElem? (i := 5) rfl)
theorem mgw_300 : gw_300 ∈ ri_gT := gi_4 _ (List.mem_of_getElem? (i := 6) rfl)
theorem mgw_302 : gw_302 ∈ ri_gT := gi_4 _ (List.mem_of_getElem? (i := 7) rfl)
theorem mgw_304 : gw_304 ∈ ri_gT := gi_4 _ (List.mem_of_getElem? (i := 8) rfl)
theorem mgw_306 : gw_306 ∈ ri_gT := gi_4 _ (List.mem_of_getElem? (i := 9) rfl)
theorem mgw_308 : gw_308 ∈ ri_gT := gi_4 _ (List.mem_of_getElem? (i := 10) rfl)
theorem mgw_310 : gw_310 ∈ ri_gT := gi_4 _ (List.mem_of_getElem? (i := 11) rfl)
theorem mgw_312 : gw_312 ∈ ri_gT := gi_4 _ (List.mem_of_getElem? (i := 12) rfl)
theorem mgw_314 : gw_314 ∈ ri_gT := gi_4 _ (List.mem_of_getElem? (i := 13) rfl)
theorem mgw_316 : gw_316 ∈ ri_gT := gi_4 _ (List.mem_of_getElem? (i := 14) rfl)
theorem mgw_318 : gw_318 ∈ ri_gT := gi_4 _ (List.mem_of_getElem? (i := 15) rfl)
theorem mgw_320 : gw_320 ∈ ri_gT := gi_4 _ (List.mem_of_getElem? (i := 16) rfl)
theorem mgw_322 : gw_322 ∈ ri_gT := gi_4 _ (List.mem_of_getElem? (i := 17) rfl)
theorem mgw_325 : gw_325 ∈ ri_gT := gi_4 _ (List.mem_of_getElem? (i := 18) rfl)
theorem mgw_326 : gw_326 ∈ ri_gT := gi_4 _ (List.mem_of_getElem? (i := 19) rfl)
theorem mgw_327 : gw_327 ∈ ri_gT := gi_4 _ (List.mem_of_getElem? (i := 20) rfl)
theorem mgw_328 : gw_328 ∈ ri_gT := gi_4 _ (List.mem_of_getElem? (i := 21) rfl)
theorem mgw_329 : gw_329 ∈ ri_gT := gi_4 _ (List.mem_of_getElem? (i := 22) rfl)
theorem mgw_330 : gw_330 ∈ ri_gT := gi_4 _ (List.mem_of_getElem? (i := 23) rfl)
theorem mgw_332 : gw_332 ∈ ri_gT := gi_4 _ (List.mem_of_getElem? (i := 24) rfl)
theorem mgw_334 : gw_334 ∈ ri_gT := gi_4 _ (List.mem_of_getElem? (i := 25) rfl)
theorem mgw_336 : gw_336 ∈ ri_gT := gi_4 _ (List.mem_of_getElem? (i := 26) rfl)
theorem mgw_338 : gw_338 ∈ ri_gT := gi_4 _ (List.mem_of_getElem? (i := 27) rfl)
theorem mgw_341 : gw_341 ∈ ri_gT := gi_4 _ (List.mem_of_getElem? (i := 28) rfl)
theorem mgw_342 : gw_342 ∈ ri_gT := gi_4 _ (List.mem_of_getElem? (i := 29) rfl)
theorem mgw_343 : gw_343 ∈ ri_gT := gi_4 _ (List.mem_of_getElem? (i := 30) rfl)
theorem mgw_344 : gw_344 ∈ ri_gT := gi_4 _ (List.mem_of_getElem? (i := 31) rfl)
theorem mgw_346 : gw_346 ∈ ri_gT := gi_4 _ (List.mem_of_getElem? (i := 32) rfl)
theorem mgw_348 : gw_348 ∈ ri_gT := gi_4 _ (List.mem_of_getElem? (i := 33) rfl)
theorem mgw_349 : gw_349 ∈ ri_gT := gi_4 _ (List.mem_of_getElem? (i := 34) rfl)
theorem mgw_352 : gw_352 ∈ ri_gT := gi_4 _ (List.mem_of_getElem? (i := 35) rfl)
theorem mgw_353 : gw_353 ∈ ri_gT := gi_4 _ (List.mem_of_getElem? (i := 36) rfl)
theorem mgw_356 : gw_356 ∈ ri_gT := gi_4 _ (List.mem_of_getElem? (i := 37) rfl)
theorem mgw_357 : gw_357 ∈ ri_gT := gi_4 _ (List.mem_of_getElem? (i := 38) rfl)
theorem mgw_358 : gw_358 ∈ ri_gT := gi_4 _ (List.mem_of_getElem? (i := 39) rfl)
theorem mgw_359 : gw_359 ∈ ri_gT := gi_4 _ (List.mem_of_getElem? (i := 40) rfl)
theorem mgw_360 : gw_360 ∈ ri_gT := gi_4 _ (List.mem_of_getElem? (i := 41) rfl)
theorem mgw_361 : gw_361 ∈ ri_gT := gi_4 _ (List.mem_of_getElem? (i := 42) rfl)
theorem mgw_363 : gw_363 ∈ ri_gT := gi_4 _ (List.mem_of_getElem? (i := 43) rfl)
theorem mgw_364 : gw_364 ∈ ri_gT := gi_4 _ (List.mem_of_getElem? (i := 44) rfl)
theorem mgw_365 : gw_365 ∈ ri_gT := gi_4 _ (List.mem_of_getElem? (i := 45) rfl)
theorem mgw_366 : gw_366 ∈ ri_gT := gi_4 _ (List.mem_of_getElem? (i := 46) rfl)
theorem mgw_367 : gw_367 ∈ ri_gT := gi_4 _ (List.mem_of_getElem? (i := 47) rfl)
theorem mgw_368 : gw_368 ∈ ri_gT := gi_5 _ (List.mem_of_getElem? (i := 0) rfl)
theorem mgw_369 : gw_369 ∈ ri_gT := gi_5 _ (List.mem_of_getElem? (i := 1) rfl)
theorem mgw_370 : gw_370 ∈ ri_gT := gi_5 _ (List.mem_of_getElem? (i := 2) rfl)
theorem mgw_372 : gw_372 ∈ ri_gT := gi_5 _ (List.mem_of_getElem? (i := 3) rfl)
theorem mgw_373 : gw_373 ∈ ri_gT := gi_5 _ (List.mem_of_getElem? (i := 4) rfl)
theorem mgw_374 : gw_374 ∈ ri_gT := gi_5 _ (List.mem_of_getElem? (i := 5) rfl)
theorem mgw_375 : gw_375 ∈ ri_gT := gi_5 _ (List.mem_of_getElem? (i := 6) rfl)
theorem mgw_376 : gw_376 ∈ ri_gT := gi_5 _ (List.mem_of_getElem? (i := 7) rfl)
theorem mgw_377 : gw_377 ∈ ri_gT := gi_5 _ (List.mem_of_getElem? (i := 8) rfl)
theorem mgw_379 : gw_379 ∈ ri_gT := gi_5 _ (List.mem_of_getElem? (i := 9) rfl)
theorem mgw_380 : gw_380 ∈ ri_gT := gi_5 _ (List.mem_of_getElem? (i := 10) rfl)
theorem mgw_381 : gw_381 ∈ ri_gT := gi_5 _ (List.mem_of_getElem? (i := 11) rfl)
theorem mgw_382 : gw_382 ∈ ri_gT := gi_5 _ (List.mem_of_getElem? (i := 12) rfl)
theorem mgw_383 : gw_383 ∈ ri_gT := gi_5 _ (List.mem_of_getElem? (i := 13) rfl)
theorem mgw_384 : gw_384 ∈ ri_gT := gi_5 _ (List.mem_of_getElem? (i := 14) rfl)
theorem mgw_385 : gw_385 ∈ ri_gT := gi_5 _ (List.mem_of_getElem? (i := 15) rfl)
theorem mgw_386 : gw_386 ∈ ri_gT := gi_5 _ (List.mem_of_getElem? (i := 16) rfl)
theorem mgw_387 : gw_387 ∈ ri_gT := gi_5 _ (List.mem_of_getElem? (i := 17) rfl)
theorem mgw_388 : gw_388 ∈ ri_gT := gi_5 _ (List.mem_of_getElem? (i := 18) rfl)
theorem mgw_389 : gw_389 ∈ ri_gT := gi_5 _ (List.mem_of_getElem? (i := 19) rfl)
theorem mgw_390 : gw_390 ∈ ri_gT := gi_5 _ (List.mem_of_getElem? (i := 20) rfl)
theorem mgw_391 : gw_391 ∈ ri_gT := gi_5 _ (List.mem_of_getElem? (i := 21) rfl)
theorem mgw_392 : gw_392 ∈ ri_gT := gi_5 _ (List.mem_of_getElem? (i := 22) rfl)
theorem mgw_393 : gw_393 ∈ ri_gT := gi_5 _ (List.mem_of_getElem? (i := 23) rfl)
theorem mgw_394 : gw_394 ∈ ri_gT := gi_5 _ (List.mem_of_getElem? (i := 24) rfl)
theorem mgw_395 : gw_395 ∈ ri_gT := gi_5 _ (List.mem_of_getElem? (i := 25) rfl)
theorem mgw_396 : gw_396 ∈ ri_gT := gi_5 _ (List.mem_of_getElem? (i := 26) rfl)
theorem mgw_397 : gw_397 ∈ ri_gT := gi_5 _ (List.mem_of_getElem? (i := 27) rfl)
theorem mgw_398 : gw_398 ∈ ri_gT := gi_5 _ (List.mem_of_getElem? (i := 28) rfl)
theorem mgw_399 : gw_399 ∈ ri_gT := gi_5 _ (List.mem_of_getElem? (i := 29) rfl)
theorem mgw_400 : gw_400 ∈ ri_gT := gi_5 _ (List.mem_of_getElem? (i := 30) rfl)
theorem mgw_401 : gw_401 ∈ ri_gT := gi_5 _ (List.mem_of_getElem? (i := 31) rfl)
theorem mgw_402 : gw_402 ∈ ri_gT := gi_5 _ (List.mem_of_getElem? (i := 32) rfl)
theorem mgw_403 : gw_403 ∈ ri_gT := gi_5 _ (List.mem_of_getElem? (i := 33) rfl)
theorem mgw_404 : gw_404 ∈ ri_gT := gi_5 _ (List.mem_of_getElem? (i := 34) rfl)
theorem mgw_405 : gw_405 ∈ ri_gT := gi_5 _ (List.mem_of_getElem? (i := 35) rfl)
theorem mgw_406 : gw_406 ∈ ri_gT := gi_5 _ (List.mem_of_getElem? (i := 36) rfl)
theorem mgw_407 : gw_407 ∈ ri_gT := gi_5 _ (List.mem_of_getElem? (i := 37) rfl)
theorem mgw_408 : gw_408 ∈ ri_gT := gi_5 _ (List.mem_of_getElem? (i := 38) rfl)
theorem mgw_409 : gw_409 ∈ ri_gT := gi_5 _ (List.mem_of_getElem? (i := 39) rfl)
theorem mgw_410 : gw_410 ∈ ri_gT := gi_5 _ (List.mem_of_getElem? (i := 40) rfl)
theorem mgw_411 : gw_411 ∈ ri_gT := gi_5 _ (List.mem_of_getElem? (i := 41) rfl)
theorem mgw_412 : gw_412 ∈ ri_gT := gi_5 _ (List.mem_of_getElem? (i := 42) rfl)
theorem mgw_413 : gw_413 ∈ ri_gT := gi_5 _ (List.mem_of_getElem? (i := 43) rfl)
theorem mgw_414 : gw_414 ∈ ri_gT := gi_5 _ (List.mem_of_getElem? (i := 44) rfl)
theorem mgw_415 : gw_415 ∈ ri_gT := gi_5 _ (List.mem_of_getElem? (i := 45) rfl)
theorem mgw_418 : gw_418 ∈ ri_gT := gi_5 _ (List.mem_of_getElem? (i := 46) rfl)
theorem mgw_419 : gw_419 ∈ ri_gT := gi_5 _ (List.mem_of_getElem? (i := 47) rfl)
theorem mgw_422 : gw_422 ∈ ri_gT := gi_6 _ (List.mem_of_getElem? (i := 0) rfl)
theorem mgw_423 : gw_423 ∈ ri_gT := gi_6 _ (List.mem_of_getElem? (i := 1) rfl)
theorem mgw_424 : gw_424 ∈ ri_gT := gi_6 _ (List.mem_of_getElem? (i := 2) rfl)
theorem mgw_426 : gw_426 ∈ ri_gT := gi_6 _ (List.mem_of_getElem? (i := 3) rfl)
theorem mgw_427 : gw_427 ∈ ri_gT := gi_6 _ (List.mem_of_getElem? (i := 4) rfl)
theorem mgw_430 : gw_430 ∈ ri_gT := gi_6 _ (List.mem_of_getElem? (i := 5) rfl)
theorem mgw_431 : gw_431 ∈ ri_gT := gi_6 _ (List.mem_of_getElem? (i := 6) rfl)
theorem mgw_432 : gw_432 ∈ ri_gT := gi_6 _ (List.mem_of_getElem? (i := 7) rfl)
theorem mgw_433 : gw_433 ∈ ri_gT := gi_6 _ (List.mem_of_getElem? (i := 8) rfl)
theorem mgw_434 : gw_434 ∈ ri_gT := gi_6 _ (List.mem_of_getElem? (i := 9) rfl)
theorem mgw_437 : gw_437 ∈ ri_gT := gi_6 _ (List.mem_of_getElem? (i := 10) rfl)
theorem mgw_438 : gw_438 ∈ ri_gT := gi_6 _ (List.mem_of_getElem? (i := 11) rfl)
theorem mgw_439 : gw_439 ∈ ri_gT := gi_6 _ (List.mem_of_getElem? (i := 12) rfl)
theorem mgw_440 : gw_440 ∈ ri_gT := gi_6 _ (List.mem_of_getElem? (i := 13) rfl)
theorem mgw_441 : gw_441 ∈ ri_gT := gi_6 _ (List.mem_of_getElem? (i := 14) rfl)
theorem mgw_444 : gw_444 ∈ ri_gT := gi_6 _ (List.mem_of_getElem? (i := 15) rfl)
theorem mgw_445 : gw_445 ∈ ri_gT := gi_6 _ (List.mem_of_getElem? (i := 16) rfl)
theorem mgw_446 : gw_446 ∈ ri_gT := gi_6 _ (List.mem_of_getElem? (i := 17) rfl)
theorem mgw_448 : gw_448 ∈ ri_gT := gi_6 _ (List.mem_of_getElem? (i := 18) rfl)
theorem mgw_449 : gw_449 ∈ ri_gT := gi_6 _ (List.mem_of_getElem? (i := 19) rfl)
theorem mgw_452 : gw_452 ∈ ri_gT := gi_6 _ (List.mem_of_getElem? (i := 20) rfl)
theorem mgw_453 : gw_453 ∈ ri_gT := gi_6 _ (List.mem_of_getElem? (i := 21) rfl)
theorem mgw_456 : gw_456 ∈ ri_gT := gi_6 _ (List.mem_of_getElem? (i := 22) rfl)
theorem mgw_457 : gw_457 ∈ ri_gT := gi_6 _ (List.mem_of_getElem? (i := 23) rfl)
theorem mgw_458 : gw_458 ∈ ri_gT := gi_6 _ (List.mem_of_getElem? (i := 24) rfl)
theorem mgw_459 : gw_459 ∈ ri_gT := gi_6 _ (List.mem_of_getElem? (i := 25) rfl)
theorem mgw_461 : gw_461 ∈ ri_gT := gi_6 _ (List.mem_of_getElem? (i := 26) rfl)
theorem mgw_463 : gw_463 ∈ ri_gT := gi_6 _ (List.mem_of_getElem? (i := 27) rfl)
theorem mgw_464 : gw_464 ∈ ri_gT := gi_6 _ (List.mem_of_getElem? (i := 28) rfl)
theorem mgw_465 : gw_465 ∈ ri_gT := gi_6 _ (List.mem_of_getElem? (i := 29) rfl)
theorem mgw_467 : gw_467 ∈ ri_gT := gi_6 _ (List.mem_of_getElem? (i := 30) rfl)
theorem mgw_468 : gw_468 ∈ ri_gT := gi_6 _ (List.mem_of_getElem? (i := 31) rfl)
theorem mgw_469 : gw_469 ∈ ri_gT := gi_6 _ (List.mem_of_getElem? (i := 32) rfl)
theorem mgw_471 : gw_471 ∈ ri_gT := gi_6 _ (List.mem_of_getElem? (i := 33) rfl)
theorem mgw_472 : gw_472 ∈ ri_gT := gi_6 _ (List.mem_of_getElem? (i := 34) rfl)
theorem mgw_475 : gw_475 ∈ ri_gT := gi_6 _ (List.mem_of_getElem? (i := 35) rfl)
theorem mgw_476 : gw_476 ∈ ri_gT := gi_6 _ (List.mem_of_getElem? (i := 36) rfl)
theorem mgw_477 : gw_477 ∈ ri_gT := gi_6 _ (List.mem_of_getElem? (i := 37) rfl)
theorem mgw_479 : gw_479 ∈ ri_gT := gi_6 _ (List.mem_of_getElem? (i := 38) rfl)
theorem mgw_480 : gw_480 ∈ ri_gT := gi_6 _ (List.mem_of_getElem? (i := 39) rfl)
theorem mgw_482 : gw_482 ∈ ri_gT := gi_6 _ (List.mem_of_getElem? (i := 40) rfl)
theorem mgw_483 : gw_483 ∈ ri_gT := gi_6 _ (List.mem_of_getElem? (i := 41) rfl)
theorem mgw_484 : gw_484 ∈ ri_gT := gi_6 _ (List.mem_of_getElem? (i := 42) rfl)
theorem mgw_486 : gw_486 ∈ ri_gT := gi_6 _ (List.mem_of_getElem? (i := 43) rfl)
theorem mgw_487 : gw_487 ∈ ri_gT := gi_6 _ (List.mem_of_getElem? (i := 44) rfl)
theorem mgw_490 : gw_490 ∈ ri_gT := gi_6 _ (List.mem_of_getElem? (i := 45) rfl)
theorem mgw_491 : gw_491 ∈ ri_gT := gi_6 _ (List.mem_of_getElem? (i := 46) rfl)
theorem mgw_493 : gw_493 ∈ ri_gT := gi_6 _ (List.mem_of_getElem? (i := 47) rfl)
theorem mgw_494 : gw_494 ∈ ri_gT := gi_7 _ (List.mem_of_getElem? (i := 0) rfl)
theorem mgw_497 : gw_497 ∈ ri_gT := gi_7 _ (List.mem_of_getElem? (i := 1) rfl)
theorem mgw_498 : gw_498 ∈ ri_gT := gi_7 _ (List.mem_of_getElem? (i := 2) rfl)
theorem mgw_501 : gw_501 ∈ ri_gT := gi_7 _ (List.mem_of_getElem? (i := 3) rfl)
theorem mgw_502 : gw_502 ∈ ri_gT := gi_7 _ (List.mem_of_getElem? (i := 4) rfl)
theorem mgw_505 : gw_505 ∈ ri_gT := gi_7 _ (List.mem_of_getElem? (i := 5) rfl)
theorem mgw_506 : gw_506 ∈ ri_gT := gi_7 _ (List.mem_of_getElem? (i := 6) rfl)
theorem mgw_509 : gw_509 ∈ ri_gT := gi_7 _ (List.mem_of_getElem? (i := 7) rfl)
theorem mgw_510 : gw_510 ∈ ri_gT := gi_7 _ (List.mem_of_getElem? (i := 8) rfl)
theorem mgw_511 : gw_511 ∈ ri_gT := gi_7 _ (List.mem_of_getElem? (i := 9) rfl)
theorem mgw_512 : gw_512 ∈ ri_gT := gi_7 _ (List.mem_of_getElem? (i := 10) rfl)
theorem mgw_514 : gw_514 ∈ ri_gT := gi_7 _ (List.mem_of_getElem? (i := 11) rfl)
theorem mgw_515 : gw_515 ∈ ri_gT := gi_7 _ (List.mem_of_getElem? (i := 12) rfl)
theorem mgw_516 : gw_516 ∈ ri_gT := gi_7 _ (List.mem_of_getElem? (i := 13) rfl)
theorem mgw_519 : gw_519 ∈ ri_gT := gi_7 _ (List.mem_of_getElem? (i := 14) rfl)
theorem mgw_520 : gw_520 ∈ ri_gT := gi_7 _ (List.mem_of_getElem? (i := 15) rfl)
theorem mgw_521 : gw_521 ∈ ri_gT := gi_7 _ (List.mem_of_getElem? (i := 16) rfl)
theorem mgw_524 : gw_524 ∈ ri_gT := gi_7 _ (List.mem_of_getElem? (i := 17) rfl)
theorem mgw_525 : gw_525 ∈ ri_gT := gi_7 _ (List.mem_of_getElem? (i := 18) rfl)
theorem mgw_526 : gw_526 ∈ ri_gT := gi_7 _ (List.mem_of_getElem? (i := 19) rfl)
theorem mgw_528 : gw_528 ∈ ri_gT := gi_7 _ (List.mem_of_getElem? (i := 20) rfl)
theorem mgw_529 : gw_529 ∈ ri_gT := gi_7 _ (List.mem_of_getElem? (i := 21) rfl)
theorem mgw_531 : gw_531 ∈ ri_gT := gi_7 _ (List.mem_of_getElem? (i := 22) rfl)
theorem mgw_532 : gw_532 ∈ ri_gT := gi_7 _ (List.mem_of_getElem? (i := 23) rfl)
theorem mgw_534 : gw_534 ∈ ri_gT := gi_7 _ (List.mem_of_getElem? (i := 24) rfl)
theorem mgw_535 : gw_535 ∈ ri_gT := gi_7 _ (List.mem_of_getElem? (i := 25) rfl)
theorem mgw_537 : gw_537 ∈ ri_gT := gi_7 _ (List.mem_of_getElem? (i := 26) rfl)
theorem mgw_539 : gw_539 ∈ ri_gT := gi_7 _ (List.mem_of_getElem? (i := 27) rfl)
theorem mgw_540 : gw_540 ∈ ri_gT := gi_7 _ (List.mem_of_getElem? (i := 28) rfl)
theorem mgw_541 : gw_541 ∈ ri_gT := gi_7 _ (List.mem_of_getElem? (i := 29) rfl)
theorem mgw_544 : gw_544 ∈ ri_gT := gi_7 _ (List.mem_of_getElem? (i := 30) rfl)
theorem mgw_545 : gw_545 ∈ ri_gT := gi_7 _ (List.mem_of_getElem? (i := 31) rfl)
theorem mgw_547 : gw_547 ∈ ri_gT := gi_7 _ (List.mem_of_getElem? (i := 32) rfl)
theorem mgw_550 : gw_550 ∈ ri_gT := gi_7 _ (List.mem_of_getElem? (i := 33) rfl)
theorem mgw_551 : gw_551 ∈ ri_gT := gi_7 _ (List.mem_of_getElem? (i := 34) rfl)
theorem mgw_552 : gw_552 ∈ ri_gT := gi_7 _ (List.mem_of_getElem? (i := 35) rfl)
theorem mgw_553 : gw_553 ∈ ri_gT := gi_7 _ (List.mem_of_getElem? (i := 36) rfl)
theorem mgw_555 : gw_555 ∈ ri_gT := gi_7 _ (List.mem_of_getElem? (i := 37) rfl)
theorem mgw_556 : gw_556 ∈ ri_gT := gi_7 _ (List.mem_of_getElem? (i := 38) rfl)
theorem mgw_559 : gw_559 ∈ ri_gT := gi_7 _ (List.mem_of_getElem? (i := 39) rfl)
theorem mgw_560 : gw_560 ∈ ri_gT := gi_7 _ (List.mem_of_getElem? (i := 40) rfl)
theorem mgw_561 : gw_561 ∈ ri_gT := gi_7 _ (List.mem_of_getElem? (i := 41) rfl)
theorem mgw_563 : gw_563 ∈ ri_gT := gi_7 _ (List.mem_of_getElem? (i := 42) rfl)
theorem mgw_564 : gw_564 ∈ ri_gT := gi_7 _ (List.mem_of_getElem? (i := 43) rfl)
theorem mgw_567 : gw_567 ∈ ri_gT := gi_7 _ (List.mem_of_getElem? (i := 44) rfl)
theorem mgw_568 : gw_568 ∈ ri_gT := gi_7 _ (List.mem_of_getElem? (i := 45) rfl)
theorem mgw_569 : gw_569 ∈ ri_gT := gi_7 _ (List.mem_of_getElem? (i := 46) rfl)
theorem mgw_571 : gw_571 ∈ ri_gT := gi_7 _ (List.mem_of_getElem? (i := 47) rfl)
theorem mgw_572 : gw_572 ∈ ri_gT := gi_8 _ (List.mem_of_getElem? (i := 0) rfl)
theorem mgw_575 : gw_575 ∈ ri_gT := gi_8 _ (List.mem_of_getElem? (i := 1) rfl)
theorem mgw_576 : gw_576 ∈ ri_gT := gi_8 _ (List.mem_of_getElem? (i := 2) rfl)
theorem mgw_577 : gw_577 ∈ ri_gT := gi_8 _ (List.mem_of_getElem? (i := 3) rfl)
theorem mgw_579 : gw_579 ∈ ri_gT := gi_8 _ (List.mem_of_getElem? (i := 4) rfl)
theorem mgw_580 : gw_580 ∈ ri_gT := gi_8 _ (List.mem_of_getElem? (i := 5) rfl)
theorem mgw_581 : gw_581 ∈ ri_gT := gi_8 _ (List.mem_of_getElem? (i := 6) rfl)
theorem mgw_583 : gw_583 ∈ ri_gT := gi_8 _ (List.mem_of_getElem? (i := 7) rfl)
theorem mgw_584 : gw_584 ∈ ri_gT := gi_8 _ (List.mem_of_getElem? (i := 8) rfl)
theorem mgw_585 : gw_585 ∈ ri_gT := gi_8 _ (List.mem_of_getElem? (i := 9) rfl)
theorem mgw_586 : gw_586 ∈ ri_gT := gi_8 _ (List.mem_of_getElem? (i := 10) rfl)
theorem mgw_587 : gw_587 ∈ ri_gT := gi_8 _ (List.mem_of_getElem? (i := 11) rfl)
theorem mgw_588 : gw_588 ∈ ri_gT := gi_8 _ (List.mem_of_getElem? (i := 12) rfl)
theorem mgw_590 : gw_590 ∈ ri_gT := gi_8 _ (List.mem_of_getElem? (i := 13) rfl)
theorem mgw_591 : gw_591 ∈ ri_gT := gi_8 _ (List.mem_of_getElem? (i := 14) rfl)
theorem mgw_592 : gw_592 ∈ ri_gT := gi_8 _ (List.mem_of_getElem? (i := 15) rfl)
theorem mgw_594 : gw_594 ∈ ri_gT := gi_8 _ (List.mem_of_getElem? (i := 16) rfl)
theorem mgw_595 : gw_595 ∈ ri_gT := gi_8 _ (List.mem_of_getElem? (i := 17) rfl)
theorem mgw_596 : gw_596 ∈ ri_gT := gi_8 _ (List.mem_of_getElem? (i := 18) rfl)
theorem mgw_598 : gw_598 ∈ ri_gT := gi_8 _ (List.mem_of_getElem? (i := 19) rfl)
theorem mgw_599 : gw_599 ∈ ri_gT := gi_8 _ (List.mem_of_getElem? (i := 20) rfl)
theorem mgw_600 : gw_600 ∈ ri_gT := gi_8 _ (List.mem_of_getElem? (i := 21) rfl)
theorem mgw_602 : gw_602 ∈ ri_gT := gi_8 _ (List.mem_of_getElem? (i := 22) rfl)
theorem mgw_603 : gw_603 ∈ ri_gT := gi_8 _ (List.mem_of_getElem? (i := 23) rfl)
theorem mgw_607 : gw_607 ∈ ri_gT := gi_8 _ (List.mem_of_getElem? (i := 24) rfl)
theorem mgw_608 : gw_608 ∈ ri_gT := gi_8 _ (List.mem_of_getElem? (i := 25) rfl)
theorem mgw_610 : gw_610 ∈ ri_gT := gi_8 _ (List.mem_of_getElem? (i := 26) rfl)
theorem mgw_611 : gw_611 ∈ ri_gT := gi_8 _ (List.mem_of_getElem? (i := 27) rfl)
theorem mgw_612 : gw_612 ∈ ri_gT := gi_8 _ (List.mem_of_getElem? (i := 28) rfl)
theorem mgw_613 : gw_613 ∈ ri_gT := gi_8 _ (List.mem_of_getElem? (i := 29) rfl)
theorem mgw_614 : gw_614 ∈ ri_gT := gi_8 _ (List.mem_of_getElem? (i := 30) rfl)
theorem mgw_615 : gw_615 ∈ ri_gT := gi_8 _ (List.mem_of_getElem? (i := 31) rfl)
theorem mgw_616 : gw_616 ∈ ri_gT := gi_8 _ (List.mem_of_getElem? (i := 32) rfl)
theorem mgw_617 : gw_617 ∈ ri_gT := gi_8 _ (List.mem_of_getElem? (i := 33) rfl)
theorem mgw_618 : gw_618 ∈ ri_gT := gi_8 _ (List.mem_of_getElem? (i := 34) rfl)
theorem mgw_620 : gw_620 ∈ ri_gT := gi_8 _ (List.mem_of_getElem? (i := 35) rfl)
theorem mgw_621 : gw_621 ∈ ri_gT := gi_8 _ (List.mem_of_getElem? (i := 36) rfl)
theorem mgw_622 : gw_622 ∈ ri_gT := gi_8 _ (List.mem_of_getElem? (i := 37) rfl)
theorem mgw_624 : gw_624 ∈ ri_gT := gi_8 _ (List.mem_of_getElem? (i := 38) rfl)
theorem mgw_625 : gw_625 ∈ ri_gT := gi_8 _ (List.mem_of_getElem? (i := 39) rfl)
theorem mgw_626 : gw_626 ∈ ri_gT := gi_8 _ (List.mem_of_getElem? (i := 40) rfl)
theorem mgw_628 : gw_628 ∈ ri_gT := gi_8 _ (List.mem_of_getElem? (i := 41) rfl)
theorem mgw_629 : gw_629 ∈ ri_gT := gi_8 _ (List.mem_of_getElem? (i := 42) rfl)
theorem mgw_630 : gw_630 ∈ ri_gT := gi_8 _ (List.mem_of_getElem? (i := 43) rfl)
theorem mgw_632 : gw_632 ∈ ri_gT := gi_8 _ (List.mem_of_getElem? (i := 44) rfl)
theorem mgw_633 : gw_633 ∈ ri_gT := gi_8 _ (List.mem_of_getElem? (i := 45) rfl)
theorem mgw_634 : gw_634 ∈ ri_gT := gi_8 _ (List.mem_of_getElem? (i := 46) rfl)
theorem mgw_636 : gw_636 ∈ ri_gT := gi_8 _ (List.mem_of_getElem? (i := 47) rfl)
theorem mgw_637 : gw_637 ∈ ri_gT := gi_9 _ (List.mem_of_getElem? (i := 0) rfl)
theorem mgw_638 : gw_638 ∈ ri_gT := gi_9 _ (List.mem_of_getElem? (i := 1) rfl)
theorem mgw_640 : gw_640 ∈ ri_gT := gi_9 _ (List.mem_of_getElem? (i := 2) rfl)
theorem mgw_641 : gw_641 ∈ ri_gT := gi_9 _ (List.mem_of_getElem? (i := 3) rfl)
theorem mgw_642 : gw_642 ∈ ri_gT := gi_9 _ (List.mem_of_getElem? (i := 4) rfl)
theorem mgw_644 : gw_644 ∈ ri_gT := gi_9 _ (List.mem_of_getElem? (i := 5) rfl)
theorem mgw_645 : gw_645 ∈ ri_gT := gi_9 _ (List.mem_of_getElem? (i := 6) rfl)
theorem mgw_646 : gw_646 ∈ ri_gT := gi_9 _ (List.mem_of_getElem? (i := 7) rfl)
theorem mgw_647 : gw_647 ∈ ri_gT := gi_9 _ (List.mem_of_getElem? (i := 8) rfl)
theorem mgw_648 : gw_648 ∈ ri_gT := gi_9 _ (List.mem_of_getElem? (i := 9) rfl)
theorem mgw_649 : gw_649 ∈ ri_gT := gi_9 _ (List.mem_of_getElem? (i := 10) rfl)
theorem mgw_650 : gw_650 ∈ ri_gT := gi_9 _ (List.mem_of_getElem? (i := 11) rfl)
theorem mgw_652 : gw_652 ∈ ri_gT := gi_9 _ (List.mem_of_getElem? (i := 12) rfl)
theorem mgw_653 : gw_653 ∈ ri_gT := gi_9 _ (List.mem_of_getElem? (i := 13) rfl)
theorem mgw_656 : gw_656 ∈ ri_gT := gi_9 _ (List.mem_of_getElem? (i := 14) rfl)
theorem mgw_657 : gw_657 ∈ ri_gT := gi_9 _ (List.mem_of_getElem? (i := 15) rfl)
theorem mgw_659 : gw_659 ∈ ri_gT := gi_9 _ (List.mem_of_getElem? (i := 16) rfl)
theorem mgw_660 : gw_660 ∈ ri_gT := gi_9 _ (List.mem_of_getElem? (i := 17) rfl)
theorem mgw_661 : gw_661 ∈ ri_gT := gi_9 _ (List.mem_of_getElem? (i := 18) rfl)
theorem mgw_662 : gw_662 ∈ ri_gT := gi_9 _ (List.mem_of_getElem? (i := 19) rfl)
theorem mgw_664 : gw_664 ∈ ri_gT := gi_9 _ (List.mem_of_getElem? (i := 20) rfl)
theorem mgw_665 : gw_665 ∈ ri_gT := gi_9 _ (List.mem_of_getElem? (i := 21) rfl)
theorem mgw_666 : gw_666 ∈ ri_gT := gi_9 _ (List.mem_of_getElem? (i := 22) rfl)
theorem mgw_667 : gw_667 ∈ ri_gT := gi_9 _ (List.mem_of_getElem? (i := 23) rfl)
theorem mgw_668 : gw_668 ∈ ri_gT := gi_9 _ (List.mem_of_getElem? (i := 24) rfl)
theorem mgw_669 : gw_669 ∈ ri_gT := gi_9 _ (List.mem_of_getElem? (i := 25) rfl)
theorem mgw_670 : gw_670 ∈ ri_gT := gi_9 _ (List.mem_of_getElem? (i := 26) rfl)
theorem mgw_671 : gw_671 ∈ ri_gT := gi_9 _ (List.mem_of_getElem? (i := 27) rfl)
theorem mgw_672 : gw_672 ∈ ri_gT := gi_9 _ (List.mem_of_getElem? (i := 28) rfl)
theorem mgw_673 : gw_673 ∈ ri_gT := gi_9 _ (List.mem_of_getElem? (i := 29) rfl)
theorem mgw_674 : gw_674 ∈ ri_gT := gi_9 _ (List.mem_of_getElem? (i := 30) rfl)
theorem mgw_675 : gw_675 ∈ ri_gT := gi_9 _ (List.mem_of_getElem? (i := 31) rfl)
theorem mgw_676 : gw_676 ∈ ri_gT := gi_9 _ (List.mem_of_getElem? (i := 32) rfl)
theorem mgw_677 : gw_677 ∈ ri_gT := gi_9 _ (List.mem_of_getElem? (i := 33) rfl)
theorem mgw_678 : gw_678 ∈ ri_gT := gi_9 _ (List.mem_of_getElem? (i := 34) rfl)
theorem mgw_679 : gw_679 ∈ ri_gT := gi_9 _ (List.mem_of_getElem? (i := 35) rfl)
theorem mgw_682 : gw_682 ∈ ri_gT := gi_9 _ (List.mem_of_getElem? (i := 36) rfl)
theorem mgw_683 : gw_683 ∈ ri_gT := gi_9 _ (List.mem_of_getElem? (i := 37) rfl)
theorem mgw_684 : gw_684 ∈ ri_gT := gi_9 _ (List.mem_of_getElem? (i := 38) rfl)
theorem mgw_686 : gw_686 ∈ ri_gT := gi_9 _ (List.mem_of_getElem? (i := 39) rfl)
theorem mgw_687 : gw_687 ∈ ri_gT := gi_9 _ (List.mem_of_getElem? (i := 40) rfl)
theorem mgw_689 : gw_689 ∈ ri_gT := gi_9 _ (List.mem_of_getElem? (i := 41) rfl)
theorem mgw_691 : gw_691 ∈ ri_gT := gi_9 _ (List.mem_of_getElem? (i := 42) rfl)
theorem mgw_692 : gw_692 ∈ ri_gT := gi_9 _ (List.mem_of_getElem? (i := 43) rfl)
theorem mgw_695 : gw_695 ∈ ri_gT := gi_9 _ (List.mem_of_getElem? (i := 44) rfl)
theorem mgw_696 : gw_696 ∈ ri_gT := gi_9 _ (List.mem_of_getElem? (i := 45) rfl)
theorem mgw_700 : gw_700 ∈ ri_gT := gi_9 _ (List.mem_of_getElem? (i := 46) rfl)
theorem mgw_701 : gw_701 ∈ ri_gT := gi_9 _ (List.mem_of_getElem? (i := 47) rfl)
theorem mgw_704 : gw_704 ∈ ri_gT := gi_10 _ (List.mem_of_getElem? (i := 0) rfl)
theorem mgw_705 : gw_705 ∈ ri_gT := gi_10 _ (List.mem_of_getElem? (i := 1) rfl)
theorem mgw_706 : gw_706 ∈ ri_gT := gi_10 _ (List.mem_of_getElem? (i := 2) rfl)
theorem mgw_708 : gw_708 ∈ ri_gT := gi_10 _ (List.mem_of_getElem? (i := 3) rfl)
theorem mgw_709 : gw_709 ∈ ri_gT := gi_10 _ (List.mem_of_getElem? (i := 4) rfl)
theorem mgw_710 : gw_710 ∈ ri_gT := gi_10 _ (List.mem_of_getElem? (i := 5) rfl)
theorem mgw_712 : gw_712 ∈ ri_gT := gi_10 _ (List.mem_of_getElem? (i := 6) rfl)
theorem mgw_713 : gw_713 ∈ ri_gT := gi_10 _ (List.mem_of_getElem? (i := 7) rfl)
theorem mgw_714 : gw_714 ∈ ri_gT := gi_10 _ (List.mem_of_getElem? (i := 8) rfl)
theorem mgw_716 : gw_716 ∈ ri_gT := gi_10 _ (List.mem_of_getElem? (i := 9) rfl)
theorem mgw_717 : gw_717 ∈ ri_gT := gi_10 _ (List.mem_of_getElem? (i := 10) rfl)
theorem mgw_718 : gw_718 ∈ ri_gT := gi_10 _ (List.mem_of_getElem? (i := 11) rfl)
theorem mgw_720 : gw_720 ∈ ri_gT := gi_10 _ (List.mem_of_getElem? (i := 12) rfl)
theorem mgw_721 : gw_721 ∈ ri_gT := gi_10 _ (List.mem_of_getElem? (i := 13) rfl)
theorem mgw_722 : gw_722 ∈ ri_gT := gi_10 _ (List.mem_of_getElem? (i := 14) rfl)
theorem mgw_724 : gw_724 ∈ ri_gT := gi_10 _ (List.mem_of_getElem? (i := 15) rfl)
theorem mgw_725 : gw_725 ∈ ri_gT := gi_10 _ (List.mem_of_getElem? (i := 16) rfl)
theorem mgw_726 : gw_726 ∈ ri_gT := gi_10 _ (List.mem_of_getElem? (i := 17) rfl)
theorem mgw_728 : gw_728 ∈ ri_gT := gi_10 _ (List.mem_of_getElem? (i := 18) rfl)
theorem mgw_729 : gw_729 ∈ ri_gT := gi_10 _ (List.mem_of_getElem? (i := 19) rfl)
theorem mgw_730 : gw_730 ∈ ri_gT := gi_10 _ (List.mem_of_getElem? (i := 20) rfl)
theorem mgw_732 : gw_732 ∈ ri_gT := gi_10 _ (List.mem_of_getElem? (i := 21) rfl)
theorem mgw_733 : gw_733 ∈ ri_gT := gi_10 _ (List.mem_of_getElem? (i := 22) rfl)
theorem mgw_734 : gw_734 ∈ ri_gT := gi_10 _ (List.mem_of_getElem? (i := 23) rfl)
theorem mgw_736 : gw_736 ∈ ri_gT := gi_10 _ (List.mem_of_getElem? (i := 24) rfl)
theorem mgw_737 : gw_737 ∈ ri_gT := gi_10 _ (List.mem_of_getElem? (i := 25) rfl)
theorem mgw_738 : gw_738 ∈ ri_gT := gi_10 _ (List.mem_of_getElem? (i := 26) rfl)
theorem mgw_740 : gw_740 ∈ ri_gT := gi_10 _ (List.mem_of_getElem? (i := 27) rfl)
theorem mgw_741 : gw_741 ∈ ri_gT := gi_10 _ (List.mem_of_getElem? (i := 28) rfl)
theorem mgw_742 : gw_742 ∈ ri_gT := gi_10 _ (List.mem_of_getElem? (i := 29) rfl)
theorem mgw_744 : gw_744 ∈ ri_gT := gi_10 _ (List.mem_of_getElem? (i := 30) rfl)
theorem mgw_745 : gw_745 ∈ ri_gT := gi_10 _ (List.mem_of_getElem? (i := 31) rfl)
theorem mgw_746 : gw_746 ∈ ri_gT := gi_10 _ (List.mem_of_getElem? (i := 32) rfl)
theorem mgw_748 : gw_748 ∈ ri_gT := gi_10 _ (List.mem_of_getElem? (i := 33) rfl)
theorem mgw_749 : gw_749 ∈ ri_gT := gi_10 _ (List.mem_of_getElem? (i := 34) rfl)
theorem mgw_752 : gw_752 ∈ ri_gT := gi_10 _ (List.mem_of_getElem? (i := 35) rfl)
theorem mgw_753 : gw_753 ∈ ri_gT := gi_10 _ (List.mem_of_getElem? (i := 36) rfl)
theorem mgw_754 : gw_754 ∈ ri_gT := gi_10 _ (List.mem_of_getElem? (i := 37) rfl)
theorem mgw_755 : gw_755 ∈ ri_gT := gi_10 _ (List.mem_of_getElem? (i := 38) rfl)
theorem mgw_756 : gw_756 ∈ ri_gT := gi_10 _ (List.mem_of_getElem? (i := 39) rfl)
theorem mgw_757 : gw_757 ∈ ri_gT := gi_10 _ (List.mem_of_getElem? (i := 40) rfl)
theorem mgw_760 : gw_760 ∈ ri_gT := gi_10 _ (List.mem_of_getElem? (i := 41) rfl)
theorem mgw_761 : gw_761 ∈ ri_gT := gi_10 _ (List.mem_of_getElem? (i := 42) rfl)
theorem mgw_762 : gw_762 ∈ ri_gT := gi_10 _ (List.mem_of_getElem? (i := 43) rfl)
theorem mgw_764 : gw_764 ∈ ri_gT := gi_10 _ (List.mem_of_getElem? (i := 44) rfl)
theorem mgw_765 : gw_765 ∈ ri_gT := gi_10 _ (List.mem_of_getElem? (i := 45) rfl)
theorem mgw_766 : gw_766 ∈ ri_gT := gi_10 _ (List.mem_of_getElem? (i := 46) rfl)
theorem mgw_768 : gw_768 ∈ ri_gT := gi_10 _ (List.mem_of_getElem? (i := 47) rfl)
theorem mgw_769 : gw_769 ∈ ri_gT := gi_11 _ (List.mem_of_getElem? (i := 0) rfl)
theorem mgw_772 : gw_772 ∈ ri_gT := gi_11 _ (List.mem_of_getElem? (i := 1) rfl)
theorem mgw_774 : gw_774 ∈ ri_gT := gi_11 _ (List.mem_of_getElem? (i := 2) rfl)
theorem mgw_775 : gw_775 ∈ ri_gT := gi_11 _ (List.mem_of_getElem? (i := 3) rfl)
theorem mgw_776 : gw_776 ∈ ri_gT := gi_11 _ (List.mem_of_getElem? (i := 4) rfl)
theorem mgw_777 : gw_777 ∈ ri_gT := gi_11 _ (List.mem_of_getElem? (i := 5) rfl)
theorem mgw_778 : gw_778 ∈ ri_gT := gi_11 _ (List.mem_of_getElem? (i := 6) rfl)
theorem mgw_779 : gw_779 ∈ ri_gT := gi_11 _ (List.mem_of_getElem? (i := 7) rfl)
theorem mgw_780 : gw_780 ∈ ri_gT := gi_11 _ (List.mem_of_getElem? (i := 8) rfl)
theorem mgw_781 : gw_781 ∈ ri_gT := gi_11 _ (List.mem_of_getElem? (i := 9) rfl)
theorem mgw_784 : gw_784 ∈ ri_gT := gi_11 _ (List.mem_of_getElem? (i := 10) rfl)
theorem mgw_785 : gw_785 ∈ ri_gT := gi_11 _ (List.mem_of_getElem? (i := 11) rfl)
theorem mgw_786 : gw_786 ∈ ri_gT := gi_11 _ (List.mem_of_getElem? (i := 12) rfl)
theorem mgw_787 : gw_787 ∈ ri_gT := gi_11 _ (List.mem_of_getElem? (i := 13) rfl)
theorem mgw_788 : gw_788 ∈ ri_gT := gi_11 _ (List.mem_of_getElem? (i := 14) rfl)
theorem mgw_789 : gw_789 ∈ ri_gT := gi_11 _ (List.mem_of_getElem? (i := 15) rfl)
theorem mgw_790 : gw_790 ∈ ri_gT := gi_11 _ (List.mem_of_getElem? (i := 16) rfl)
theorem mgw_791 : gw_791 ∈ ri_gT := gi_11 _ (List.mem_of_getElem? (i := 17) rfl)
theorem mgw_792 : gw_792 ∈ ri_gT := gi_11 _ (List.mem_of_getElem? (i := 18) rfl)
theorem mgw_795 : gw_795 ∈ ri_gT := gi_11 _ (List.mem_of_getElem? (i := 19) rfl)
theorem mgw_796 : gw_796 ∈ ri_gT := gi_11 _ (List.mem_of_getElem? (i := 20) rfl)
theorem mgw_797 : gw_797 ∈ ri_gT := gi_11 _ (List.mem_of_getElem? (i := 21) rfl)
theorem mgw_798 : gw_798 ∈ ri_gT := gi_11 _ (List.mem_of_getElem? (i := 22) rfl)
theorem mgw_799 : gw_799 ∈ ri_gT := gi_11 _ (List.mem_of_getElem? (i := 23) rfl)
theorem mgw_800 : gw_800 ∈ ri_gT := gi_11 _ (List.mem_of_getElem? (i := 24) rfl)
theorem mgw_801 : gw_801 ∈ ri_gT := gi_11 _ (List.mem_of_getElem? (i := 25) rfl)
theorem mgw_802 : gw_802 ∈ ri_gT := gi_11 _ (List.mem_of_getElem? (i := 26) rfl)
theorem mgw_803 : gw_803 ∈ ri_gT := gi_11 _ (List.mem_of_getElem? (i := 27) rfl)
theorem mgw_804 : gw_804 ∈ ri_gT := gi_11 _ (List.mem_of_getElem? (i := 28) rfl)
theorem mgw_805 : gw_805 ∈ ri_gT := gi_11 _ (List.mem_of_getElem? (i := 29) rfl)
theorem mgw_806 : gw_806 ∈ ri_gT := gi_11 _ (List.mem_of_getElem? (i := 30) rfl)
theorem mgw_808 : gw_808 ∈ ri_gT := gi_11 _ (List.mem_of_getElem? (i := 31) rfl)
theorem mgw_809 : gw_809 ∈ ri_gT := gi_11 _ (List.mem_of_getElem? (i := 32) rfl)
theorem mgw_810 : gw_810 ∈ ri_gT := gi_11 _ (List.mem_of_getElem? (i := 33) rfl)
theorem mgw_811 : gw_811 ∈ ri_gT := gi_11 _ (List.mem_of_getElem? (i := 34) rfl)
theorem mgw_812 : gw_812 ∈ ri_gT := gi_11 _ (List.mem_of_getElem? (i := 35) rfl)
theorem mgw_813 : gw_813 ∈ ri_gT := gi_11 _ (List.mem_of_getElem? (i := 36) rfl)
theorem mgw_814 : gw_814 ∈ ri_gT := gi_11 _ (List.mem_of_getElem? (i := 37) rfl)
theorem mgw_815 : gw_815 ∈ ri_gT := gi_11 _ (List.mem_of_getElem? (i := 38) rfl)
theorem mgw_816 : gw_816 ∈ ri_gT := gi_11 _ (List.mem_of_getElem? (i := 39) rfl)
theorem mgw_817 : gw_817 ∈ ri_gT := gi_11 _ (List.mem_of_getElem? (i := 40) rfl)
theorem mgw_818 : gw_818 ∈ ri_gT := gi_11 _ (List.mem_of_getElem? (i := 41) rfl)
theorem mgw_819 : gw_819 ∈ ri_gT := gi_11 _ (List.mem_of_getElem? (i := 42) rfl)
theorem mgw_820 : gw_820 ∈ ri_gT := gi_11 _ (List.mem_of_getElem? (i := 43) rfl)
theorem mgw_821 : gw_821 ∈ ri_gT := gi_11 _ (List.mem_of_getElem? (i := 44) rfl)
theorem mgw_822 : gw_822 ∈ ri_gT := gi_11 _ (List.mem_of_getElem? (i := 45) rfl)
theorem mgw_823 : gw_823 ∈ ri_gT := gi_11 _ (List.mem_of_getElem? (i := 46) rfl)
theorem mgw_824 : gw_824 ∈ ri_gT := gi_11 _ (List.mem_of_getElem? (i := 47) rfl)
theorem mgw_825 : gw_825 ∈ ri_gT := gi_12 _ (List.mem_of_getElem? (i := 0) rfl)
theorem mgw_826 : gw_826 ∈ ri_gT := gi_12 _ (List.mem_of_getElem? (i := 1) rfl)
theorem mgw_827 : gw_827 ∈ ri_gT := gi_12 _ (List.mem_of_getElem? (i := 2) rfl)
theorem mgw_828 : gw_828 ∈ ri_gT := gi_12 _ (List.mem_of_getElem? (i := 3) rfl)
theorem mgw_829 : gw_829 ∈ ri_gT := gi_12 _ (List.mem_of_getElem? (i := 4) rfl)
theorem mgw_830 : gw_830 ∈ ri_gT := gi_12 _ (List.mem_of_getElem? (i := 5) rfl)
theorem mgw_831 : gw_831 ∈ ri_gT := gi_12 _ (List.mem_of_getElem? (i := 6) rfl)
theorem mgw_832 : gw_832 ∈ ri_gT := gi_12 _ (List.mem_of_getElem? (i := 7) rfl)
theorem mgw_833 : gw_833 ∈ ri_gT := gi_12 _ (List.mem_of_getElem? (i := 8) rfl)
theorem mgw_834 : gw_834 ∈ ri_gT := gi_12 _ (List.mem_of_getElem? (i := 9) rfl)
theorem mgw_835 : gw_835 ∈ ri_gT := gi_12 _ (List.mem_of_getElem? (i := 10) rfl)
theorem mgw_836 : gw_836 ∈ ri_gT := gi_12 _ (List.mem_of_getElem? (i := 11) rfl)
theorem mgw_837 : gw_837 ∈ ri_gT := gi_12 _ (List.mem_of_getElem? (i := 12) rfl)
theorem mgw_838 : gw_838 ∈ ri_gT := gi_12 _ (List.mem_of_getElem? (i := 13) rfl)
theorem mgw_839 : gw_839 ∈ ri_gT := gi_12 _ (List.mem_of_getElem? (i := 14) rfl)
theorem mgw_840 : gw_840 ∈ ri_gT := gi_12 _ (List.mem_of_getElem? (i := 15) rfl)
theorem mgw_841 : gw_841 ∈ ri_gT := gi_12 _ (List.mem_of_getElem? (i := 16) rfl)
theorem mgw_842 : gw_842 ∈ ri_gT := gi_12 _ (List.mem_of_getElem? (i := 17) rfl)
theorem mgw_843 : gw_843 ∈ ri_gT := gi_12 _ (List.mem_of_getElem? (i := 18) rfl)
theorem mgw_844 : gw_844 ∈ ri_gT := gi_12 _ (List.mem_of_getElem? (i := 19) rfl)
theorem mgw_845 : gw_845 ∈ ri_gT := gi_12 _ (List.mem_of_getElem? (i := 20) rfl)
theorem mgw_846 : gw_846 ∈ ri_gT := gi_12 _ (List.mem_of_getElem? (i := 21) rfl)
theorem mgw_847 : gw_847 ∈ ri_gT := gi_12 _ (List.mem_of_getElem? (i := 22) rfl)
theorem mgw_848 : gw_848 ∈ ri_gT := gi_12 _ (List.mem_of_getElem? (i := 23) rfl)
theorem mgw_849 : gw_849 ∈ ri_gT := gi_12 _ (List.mem_of_getElem? (i := 24) rfl)
theorem mgw_850 : gw_850 ∈ ri_gT := gi_12 _ (List.mem_of_getElem? (i := 25) rfl)
theorem mgw_852 : gw_852 ∈ ri_gT := gi_12 _ (List.mem_of_getElem? (i := 26) rfl)
theorem mgw_854 : gw_854 ∈ ri_gT := gi_12 _ (List.mem_of_getElem? (i := 27) rfl)
theorem mgw_856 : gw_856 ∈ ri_gT := gi_12 _ (List.mem_of_getElem? (i := 28) rfl)
theorem mgw_858 : gw_858 ∈ ri_gT := gi_12 _ (List.mem_of_getElem? (i := 29) rfl)
theorem mgw_860 : gw_860 ∈ ri_gT := gi_12 _ (List.mem_of_getElem? (i := 30) rfl)
theorem mgw_862 : gw_862 ∈ ri_gT := gi_12 _ (List.mem_of_getElem? (i := 31) rfl)
theorem mgw_864 : gw_864 ∈ ri_gT := gi_12 _ (List.mem_of_getElem? (i := 32) rfl)
theorem mgw_866 : gw_866 ∈ ri_gT := gi_12 _ (List.mem_of_getElem? (i := 33) rfl)
theorem mgw_868 : gw_868 ∈ ri_gT := gi_12 _ (List.mem_of_getElem? (i := 34) rfl)
theorem mgw_870 : gw_870 ∈ ri_gT := gi_12 _ (List.mem_of_getElem? (i := 35) rfl)
theorem mgw_872 : gw_872 ∈ ri_gT := gi_12 _ (List.mem_of_getElem? (i := 36) rfl)
theorem mgw_874 : gw_874 ∈ ri_gT := gi_12 _ (List.mem_of_getElem? (i := 37) rfl)
theorem mgw_876 : gw_876 ∈ ri_gT := gi_12 _ (List.mem_of_getElem? (i := 38) rfl)
theorem mgw_878 : gw_878 ∈ ri_gT := gi_12 _ (List.mem_of_getElem? (i := 39) rfl)
theorem mgw_880 : gw_880 ∈ ri_gT := gi_12 _ (List.mem_of_getElem? (i := 40) rfl)
theorem mgw_882 : gw_882 ∈ ri_gT := gi_12 _ (List.mem_of_getElem? (i := 41) rfl)
theorem mgw_884 : gw_884 ∈ ri_gT := gi_12 _ (List.mem_of_getElem? (i := 42) rfl)
theorem mgw_886 : gw_886 ∈ ri_gT := gi_12 _ (List.mem_of_getElem? (i := 43) rfl)
theorem mgw_888 : gw_888 ∈ ri_gT := gi_12 _ (List.mem_of_getElem? (i := 44) rfl)
theorem mgw_890 : gw_890 ∈ ri_gT := gi_12 _ (List.mem_of_getElem? (i := 45) rfl)
theorem mgw_892 : gw_892 ∈ ri_gT := gi_12 _ (List.mem_of_getElem? (i := 46) rfl)
theorem mgw_894 : gw_894 ∈ ri_gT := gi_12 _ (List.mem_of_getElem? (i := 47) rfl)
theorem mgw_896 : gw_896 ∈ ri_gT := gi_13 _ (List.mem_of_getElem? (i := 0) rfl)
theorem mgw_898 : gw_898 ∈ ri_gT := gi_13 _ (List.mem_of_getElem? (i := 1) rfl)
theorem mgw_900 : gw_900 ∈ ri_gT := gi_13 _ (List.mem_of_getElem? (i := 2) rfl)
theorem mgw_902 : gw_902 ∈ ri_gT := gi_13 _ (List.mem_of_getElem? (i := 3) rfl)
theorem mgw_904 : gw_904 ∈ ri_gT := gi_13 _ (List.mem_of_getElem? (i := 4) rfl)
theorem mgw_906 : gw_906 ∈ ri_gT := gi_13 _ (List.mem_of_getElem? (i := 5) rfl)
theorem mgw_908 : gw_908 ∈ ri_gT := gi_13 _ (List.mem_of_getElem? (i := 6) rfl)
theorem mgw_910 : gw_910 ∈ ri_gT := gi_13 _ (List.mem_of_getElem? (i := 7) rfl)
theorem mgw_912 : gw_912 ∈ ri_gT := gi_13 _ (List.mem_of_getElem? (i := 8) rfl)
theorem mgw_914 : gw_914 ∈ ri_gT := gi_13 _ (List.mem_of_getElem? (i := 9) rfl)
theorem mgw_916 : gw_916 ∈ ri_gT := gi_13 _ (List.mem_of_getElem? (i := 10) rfl)
theorem mgw_918 : gw_918 ∈ ri_gT := gi_13 _ (List.mem_of_getElem? (i := 11) rfl)
theorem mgw_920 : gw_920 ∈ ri_gT := gi_13 _ (List.mem_of_getElem? (i := 12) rfl)
theorem mgw_923 : gw_923 ∈ ri_gT := gi_13 _ (List.mem_of_getElem? (i := 13) rfl)
theorem mgw_924 : gw_924 ∈ ri_gT := gi_13 _ (List.mem_of_getElem? (i := 14) rfl)
theorem mgw_925 : gw_925 ∈ ri_gT := gi_13 _ (List.mem_of_getElem? (i := 15) rfl)
theorem mgw_926 : gw_926 ∈ ri_gT := gi_13 _ (List.mem_of_getElem? (i := 16) rfl)
theorem mgw_927 : gw_927 ∈ ri_gT := gi_13 _ (List.mem_of_getElem? (i := 17) rfl)
theorem mgw_928 : gw_928 ∈ ri_gT := gi_13 _ (List.mem_of_getElem? (i := 18) rfl)
theorem mgw_929 : gw_929 ∈ ri_gT := gi_13 _ (List.mem_of_getElem? (i := 19) rfl)
theorem mgw_930 : gw_930 ∈ ri_gT := gi_13 _ (List.mem_of_getElem? (i := 20) rfl)
theorem mgw_931 : gw_931 ∈ ri_gT := gi_13 _ (List.mem_of_getElem? (i := 21) rfl)
theorem mgw_932 : gw_932 ∈ ri_gT := gi_13 _ (List.mem_of_getElem? (i := 22) rfl)
theorem mgw_933 : gw_933 ∈ ri_gT := gi_13 _ (List.mem_of_getElem? (i := 23) rfl)
theorem mgw_934 : gw_934 ∈ ri_gT := gi_13 _ (List.mem_of_getElem? (i := 24) rfl)
theorem mgw_935 : gw_935 ∈ ri_gT := gi_13 _ (List.mem_of_getElem? (i := 25) rfl)
theorem mgw_936 : gw_936 ∈ ri_gT := gi_13 _ (List.mem_of_getElem? (i := 26) rfl)
theorem mgw_937 : gw_937 ∈ ri_gT := gi_13 _ (List.mem_of_getElem? (i := 27) rfl)
theorem mgw_938 : gw_938 ∈ ri_gT := gi_13 _ (List.mem_of_getElem? (i := 28) rfl)
theorem mgw_939 : gw_939 ∈ ri_gT := gi_13 _ (List.mem_of_getElem? (i := 29) rfl)
theorem mgw_940 : gw_940 ∈ ri_gT := gi_13 _ (List.mem_of_getElem? (i := 30) rfl)
theorem mgw_941 : gw_941 ∈ ri_gT := gi_13 _ (List.mem_of_getElem? (i := 31) rfl)
theorem mgw_943 : gw_943 ∈ ri_gT := gi_13 _ (List.mem_of_getElem? (i := 32) rfl)
theorem mgw_944 : gw_944 ∈ ri_gT := gi_13 _ (List.mem_of_getElem? (i := 33) rfl)
theorem mgw_945 : gw_945 ∈ ri_gT := gi_13 _ (List.mem_of_getElem? (i := 34) rfl)
theorem mgw_946 : gw_946 ∈ ri_gT := gi_13 _ (List.mem_of_getElem? (i := 35) rfl)
theorem mgw_947 : gw_947 ∈ ri_gT := gi_13 _ (List.mem_of_getElem? (i := 36) rfl)
theorem mgw_948 : gw_948 ∈ ri_gT := gi_13 _ (List.mem_of_getElem? (i := 37) rfl)
theorem mgw_949 : gw_949 ∈ ri_gT := gi_13 _ (List.mem_of_getElem? (i := 38) rfl)
theorem mgw_950 : gw_950 ∈ ri_gT := gi_13 _ (List.mem_of_getElem? (i := 39) rfl)
theorem mgw_951 : gw_951 ∈ ri_gT := gi_13 _ (List.mem_of_getElem? (i := 40) rfl)
theorem mgw_952 : gw_952 ∈ ri_gT := gi_13 _ (List.mem_of_getElem? (i := 41) rfl)
theorem mgw_953 : gw_953 ∈ ri_gT := gi_13 _ (List.mem_of_getElem? (i := 42) rfl)
theorem mgw_954 : gw_954 ∈ ri_gT := gi_13 _ (List.mem_of_getElem? (i := 43) rfl)
theorem mgw_955 : gw_955 ∈ ri_gT := gi_13 _ (List.mem_of_getElem? (i := 44) rfl)
theorem mgw_956 : gw_956 ∈ ri_gT := gi_13 _ (List.mem_of_getElem? (i := 45) rfl)
theorem mgw_957 : gw_957 ∈ ri_gT := gi_13 _ (List.mem_of_getElem? (i := 46) rfl)
theorem mgw_958 : gw_958 ∈ ri_gT := gi_13 _ (List.mem_of_getElem? (i := 47) rfl)
theorem mgw_959 : gw_959 ∈ ri_gT := gi_14 _ (List.mem_of_getElem? (i := 0) rfl)
theorem mgw_960 : gw_960 ∈ ri_gT := gi_14 _ (List.mem_of_getElem? (i := 1) rfl)
theorem mgw_961 : gw_961 ∈ ri_gT := gi_14 _ (List.mem_of_getElem? (i := 2) rfl)
theorem mgw_962 : gw_962 ∈ ri_gT := gi_14 _ (List.mem_of_getElem? (i := 3) rfl)
theorem mgw_963 : gw_963 ∈ ri_gT := gi_14 _ (List.mem_of_getElem? (i := 4) rfl)
theorem mgw_964 : gw_964 ∈ ri_gT := gi_14 _ (List.mem_of_getElem? (i := 5) rfl)
theorem mgw_965 : gw_965 ∈ ri_gT := gi_14 _ (List.mem_of_getElem? (i := 6) rfl)
theorem mgw_966 : gw_966 ∈ ri_gT := gi_14 _ (List.mem_of_getElem? (i := 7) rfl)
theorem mgw_967 : gw_967 ∈ ri_gT := gi_14 _ (List.mem_of_getElem? (i := 8) rfl)
theorem mgw_968 : gw_968 ∈ ri_gT := gi_14 _ (List.mem_of_getElem? (i := 9) rfl)
theorem mgw_969 : gw_969 ∈ ri_gT := gi_14 _ (List.mem_of_getElem? (i := 10) rfl)
theorem mgw_970 : gw_970 ∈ ri_gT := gi_14 _ (List.mem_of_getElem? (i := 11) rfl)
theorem mgw_971 : gw_971 ∈ ri_gT := gi_14 _ (List.mem_of_getElem? (i := 12) rfl)
theorem mgw_972 : gw_972 ∈ ri_gT := gi_14 _ (List.mem_of_getElem? (i := 13) rfl)
theorem mgw_973 : gw_973 ∈ ri_gT := gi_14 _ (List.mem_of_getElem? (i := 14) rfl)
theorem mgw_974 : gw_974 ∈ ri_gT := gi_14 _ (List.mem_of_getElem? (i := 15) rfl)
theorem mgw_975 : gw_975 ∈ ri_gT := gi_14 _ (List.mem_of_getElem? (i := 16) rfl)
theorem mgw_976 : gw_976 ∈ ri_gT := gi_14 _ (List.mem_of_getElem? (i := 17) rfl)
theorem mgw_977 : gw_977 ∈ ri_gT := gi_14 _ (List.mem_of_getElem? (i := 18) rfl)
theorem mgw_978 : gw_978 ∈ ri_gT := gi_14 _ (List.mem_of_getElem? (i := 19) rfl)
theorem mgw_979 : gw_979 ∈ ri_gT := gi_14 _ (List.mem_of_getElem? (i := 20) rfl)
theorem mgw_980 : gw_980 ∈ ri_gT := gi_14 _ (List.mem_of_getElem? (i := 21) rfl)
theorem mgw_981 : gw_981 ∈ ri_gT := gi_14 _ (List.mem_of_getElem? (i := 22) rfl)
theorem mgw_982 : gw_982 ∈ ri_gT := gi_14 _ (List.mem_of_getElem? (i := 23) rfl)
theorem mgw_983 : gw_983 ∈ ri_gT := gi_14 _ (List.mem_of_getElem? (i := 24) rfl)
theorem mgw_985 : gw_985 ∈ ri_gT := gi_14 _ (List.mem_of_getElem? (i := 25) rfl)
theorem mgw_986 : gw_986 ∈ ri_gT := gi_14 _ (List.mem_of_getElem? (i := 26) rfl)
theorem mgw_987 : gw_987 ∈ ri_gT := gi_14 _ (List.mem_of_getElem? (i := 27) rfl)
theorem mgw_988 : gw_988 ∈ ri_gT := gi_14 _ (List.mem_of_getElem? (i := 28) rfl)
theorem mgw_989 : gw_989 ∈ ri_gT := gi_14 _ (List.mem_of_getElem? (i := 29) rfl)
theorem mgw_990 : gw_990 ∈ ri_gT := gi_14 _ (List.mem_of_getElem? (i := 30) rfl)
theorem mgw_991 : gw_991 ∈ ri_gT := gi_14 _ (List.mem_of_getElem? (i := 31) rfl)
theorem mgw_992 : gw_992 ∈ ri_gT := gi_14 _ (List.mem_of_getElem? (i := 32) rfl)
theorem mgw_993 : gw_993 ∈ ri_gT := gi_14 _ (List.mem_of_getElem? (i := 33) rfl)
theorem mgw_995 : gw_995 ∈ ri_gT := gi_14 _ (List.mem_of_getElem? (i := 34) rfl)
theorem mgw_996 : gw_996 ∈ ri_gT := gi_14 _ (List.mem_of_getElem? (i := 35) rfl)
theorem mgw_997 : gw_997 ∈ ri_gT := gi_14 _ (List.mem_of_getElem? (i := 36) rfl)
theorem mgw_999 : gw_999 ∈ ri_gT := gi_14 _ (List.mem_of_getElem? (i := 37) rfl)
theorem mgw_1000 : gw_1000 ∈ ri_gT := gi_14 _ (List.mem_of_getElem? (i := 38) rfl)
theorem mgw_1001 : gw_1001 ∈ ri_gT := gi_14 _ (List.mem_of_getElem? (i := 39) rfl)
theorem mgw_1003 : gw_1003 ∈ ri_gT := gi_14 _ (List.mem_of_getElem? (i := 40) rfl)
theorem mgw_1004 : gw_1004 ∈ ri_gT := gi_14 _ (List.mem_of_getElem? (i := 41) rfl)
theorem mgw_1005 : gw_1005 ∈ ri_gT := gi_14 _ (List.mem_of_getElem? (i := 42) rfl)
theorem mgw_1007 : gw_1007 ∈ ri_gT := gi_14 _ (List.mem_of_getElem? (i := 43) rfl)
theorem mgw_1008 : gw_1008 ∈ ri_gT := gi_14 _ (List.mem_of_getElem? (i := 44) rfl)
theorem mgw_1009 : gw_1009 ∈ ri_gT := gi_14 _ (List.mem_of_getElem? (i := 45) rfl)
theorem mgw_1011 : gw_1011 ∈ ri_gT := gi_14 _ (List.mem_of_getElem? (i := 46) rfl)
theorem mgw_1012 : gw_1012 ∈ ri_gT := gi_14 _ (List.mem_of_getElem? (i := 47) rfl)
theorem mgw_1013 : gw_1013 ∈ ri_gT := gi_15 _ (List.mem_of_getElem? (i := 0) rfl)
theorem mgw_1015 : gw_1015 ∈ ri_gT := gi_15 _ (List.mem_of_getElem? (i := 1) rfl)
theorem mgw_1016 : gw_1016 ∈ ri_gT := gi_15 _ (List.mem_of_getElem? (i := 2) rfl)
theorem mgw_1017 : gw_1017 ∈ ri_gT := gi_15 _ (List.mem_of_getElem? (i := 3) rfl)
theorem mgw_1019 : gw_1019 ∈ ri_gT := gi_15 _ (List.mem_of_getElem? (i := 4) rfl)
theorem mgw_1020 : gw_1020 ∈ ri_gT := gi_15 _ (List.mem_of_getElem? (i := 5) rfl)
theorem mgw_1021 : gw_1021 ∈ ri_gT := gi_15 _ (List.mem_of_getElem? (i := 6) rfl)
theorem mgw_1023 : gw_1023 ∈ ri_gT := gi_15 _ (List.mem_of_getElem? (i := 7) rfl)
theorem mgw_1024 : gw_1024 ∈ ri_gT := gi_15 _ (List.mem_of_getElem? (i := 8) rfl)
theorem mgw_1025 : gw_1025 ∈ ri_gT := gi_15 _ (List.mem_of_getElem? (i := 9) rfl)
theorem mgw_1026 : gw_1026 ∈ ri_gT := gi_15 _ (List.mem_of_getElem? (i := 10) rfl)
theorem mgw_1027 : gw_1027 ∈ ri_gT := gi_15 _ (List.mem_of_getElem? (i := 11) rfl)
theorem mgw_1028 : gw_1028 ∈ ri_gT := gi_15 _ (List.mem_of_getElem? (i := 12) rfl)
theorem mgw_1029 : gw_1029 ∈ ri_gT := gi_15 _ (List.mem_of_getElem? (i := 13) rfl)
theorem mgw_1030 : gw_1030 ∈ ri_gT := gi_15 _ (List.mem_of_getElem? (i := 14) rfl)
theorem mgw_1032 : gw_1032 ∈ ri_gT := gi_15 _ (List.mem_of_getElem? (i := 15) rfl)
theorem mgw_1033 : gw_1033 ∈ ri_gT := gi_15 _ (List.mem_of_getElem? (i := 16) rfl)
theorem mgw_1034 : gw_1034 ∈ ri_gT := gi_15 _ (List.mem_of_getElem? (i := 17) rfl)
theorem mgw_1036 : gw_1036 ∈ ri_gT := gi_15 _ (List.mem_of_getElem? (i := 18) rfl)
theorem mgw_1037 : gw_1037 ∈ ri_gT := gi_15 _ (List.mem_of_getElem? (i := 19) rfl)
theorem mgw_1038 : gw_1038 ∈ ri_gT := gi_15 _ (List.mem_of_getElem? (i := 20) rfl)
theorem mgw_1040 : gw_1040 ∈ ri_gT := gi_15 _ (List.mem_of_getElem? (i := 21) rfl)
theorem mgw_1041 : gw_1041 ∈ ri_gT := gi_15 _ (List.mem_of_getElem? (i := 22) rfl)
theorem mgw_1042 : gw_1042 ∈ ri_gT := gi_15 _ (List.mem_of_getElem? (i := 23) rfl)
theorem mgw_1044 : gw_1044 ∈ ri_gT := gi_15 _ (List.mem_of_getElem? (i := 24) rfl)
theorem mgw_1045 : gw_1045 ∈ ri_gT := gi_15 _ (List.mem_of_getElem? (i := 25) rfl)
theorem mgw_1046 : gw_1046 ∈ ri_gT := gi_15 _ (List.mem_of_getElem? (i := 26) rfl)
theorem mgw_1048 : gw_1048 ∈ ri_gT := gi_15 _ (List.mem_of_getElem? (i := 27) rfl)
theorem mgw_1049 : gw_1049 ∈ ri_gT := gi_15 _ (List.mem_of_getElem? (i := 28) rfl)
theorem mgw_1050 : gw_1050 ∈ ri_gT := gi_15 _ (List.mem_of_getElem? (i := 29) rfl)
theorem mgw_1051 : gw_1051 ∈ ri_gT := gi_15 _ (List.mem_of_getElem? (i := 30) rfl)
theorem mgw_1052 : gw_1052 ∈ ri_gT := gi_15 _ (List.mem_of_getElem? (i := 31) rfl)
theorem mgw_1053 : gw_1053 ∈ ri_gT := gi_15 _ (List.mem_of_getElem? (i := 32) rfl)
theorem mgw_1054 : gw_1054 ∈ ri_gT := gi_15 _ (List.mem_of_getElem? (i := 33) rfl)
theorem mgw_1055 : gw_1055 ∈ ri_gT := gi_15 _ (List.mem_of_getElem? (i := 34) rfl)
theorem mgw_1056 : gw_1056 ∈ ri_gT := gi_15 _ (List.mem_of_getElem? (i := 35) rfl)
theorem mgw_1057 : gw_1057 ∈ ri_gT := gi_15 _ (List.mem_of_getElem? (i := 36) rfl)
theorem mgw_1058 : gw_1058 ∈ ri_gT := gi_15 _ (List.mem_of_getElem? (i := 37) rfl)
theorem mgw_1059 : gw_1059 ∈ ri_gT := gi_15 _ (List.mem_of_getElem? (i := 38) rfl)
theorem mgw_1060 : gw_1060 ∈ ri_gT := gi_15 _ (List.mem_of_getElem? (i := 39) rfl)
theorem mgw_1061 : gw_1061 ∈ ri_gT := gi_15 _ (List.mem_of_getElem? (i := 40) rfl)
theorem mgw_1062 : gw_1062 ∈ ri_gT := gi_15 _ (List.mem_of_getElem? (i := 41) rfl)
theorem mgw_1064 : gw_1064 ∈ ri_gT := gi_15 _ (List.mem_of_getElem? (i := 42) rfl)
theorem mgw_1065 : gw_1065 ∈ ri_gT := gi_15 _ (List.mem_of_getElem? (i := 43) rfl)
theorem mgw_1066 : gw_1066 ∈ ri_gT := gi_15 _ (List.mem_of_getElem? (i := 44) rfl)
theorem mgw_1068 : gw_1068 ∈ ri_gT := gi_15 _ (List.mem_of_getElem? (i := 45) rfl)
theorem mgw_1069 : gw_1069 ∈ ri_gT := gi_15 _ (List.mem_of_getElem? (i := 46) rfl)
theorem mgw_1070 : gw_1070 ∈ ri_gT := gi_15 _ (List.mem_of_getElem? (i := 47) rfl)
theorem mgw_1072 : gw_1072 ∈ ri_gT := gi_16 _ (List.mem_of_getElem? (i := 0) rfl)
theorem mgw_1073 : gw_1073 ∈ ri_gT := gi_16 _ (List.mem_of_getElem? (i := 1) rfl)
theorem mgw_1074 : gw_1074 ∈ ri_gT := gi_16 _ (List.mem_of_getElem? (i := 2) rfl)
theorem mgw_1075 : gw_1075 ∈ ri_gT := gi_16 _ (List.mem_of_getElem? (i := 3) rfl)
theorem mgw_1076 : gw_1076 ∈ ri_gT := gi_16 _ (List.mem_of_getElem? (i := 4) rfl)
theorem mgw_1077 : gw_1077 ∈ ri_gT := gi_16 _ (List.mem_of_getElem? (i := 5) rfl)
theorem mgw_1078 : gw_1078 ∈ ri_gT := gi_16 _ (List.mem_of_getElem? (i := 6) rfl)
theorem mgw_1080 : gw_1080 ∈ ri_gT := gi_16 _ (List.mem_of_getElem? (i := 7) rfl)
theorem mgw_1081 : gw_1081 ∈ ri_gT := gi_16 _ (List.mem_of_getElem? (i := 8) rfl)
theorem mgw_1082 : gw_1082 ∈ ri_gT := gi_16 _ (List.mem_of_getElem? (i := 9) rfl)
theorem mgw_1083 : gw_1083 ∈ ri_gT := gi_16 _ (List.mem_of_getElem? (i := 10) rfl)
theorem mgw_1084 : gw_1084 ∈ ri_gT := gi_16 _ (List.mem_of_getElem? (i := 11) rfl)
theorem mgw_1085 : gw_1085 ∈ ri_gT := gi_16 _ (List.mem_of_getElem? (i := 12) rfl)
theorem mgw_1086 : gw_1086 ∈ ri_gT := gi_16 _ (List.mem_of_getElem? (i := 13) rfl)
theorem mgw_1087 : gw_1087 ∈ ri_gT := gi_16 _ (List.mem_of_getElem? (i := 14) rfl)
theorem mgw_1088 : gw_1088 ∈ ri_gT := gi_16 _ (List.mem_of_getElem? (i := 15) rfl)
theorem mgw_1089 : gw_1089 ∈ ri_gT := gi_16 _ (List.mem_of_getElem? (i := 16) rfl)
theorem mgw_1090 : gw_1090 ∈ ri_gT := gi_16 _ (List.mem_of_getElem? (i := 17) rfl)
theorem mgw_1091 : gw_1091 ∈ ri_gT := gi_16 _ (List.mem_of_getElem? (i := 18) rfl)
theorem mgw_1092 : gw_1092 ∈ ri_gT := gi_16 _ (List.mem_of_getElem? (i := 19) rfl)
theorem mgw_1093 : gw_1093 ∈ ri_gT := gi_16 _ (List.mem_of_getElem? (i := 20) rfl)
theorem mgw_1094 : gw_1094 ∈ ri_gT := gi_16 _ (List.mem_of_getElem? (i := 21) rfl)
theorem mgw_1095 : gw_1095 ∈ ri_gT := gi_16 _ (List.mem_of_getElem? (i := 22) rfl)
theorem mgw_1096 : gw_1096 ∈ ri_gT := gi_16 _ (List.mem_of_getElem? (i := 23) rfl)
theorem mgw_1097 : gw_1097 ∈ ri_gT := gi_16 _ (List.mem_of_getElem? (i := 24) rfl)
theorem mgw_1098 : gw_1098 ∈ ri_gT := gi_16 _ (List.mem_of_getElem? (i := 25) rfl)
theorem mgw_1099 : gw_1099 ∈ ri_gT := gi_16 _ (List.mem_of_getElem? (i := 26) rfl)
theorem mgw_1101 : gw_1101 ∈ ri_gT := gi_16 _ (List.mem_of_getElem? (i := 27) rfl)
theorem mgw_1102 : gw_1102 ∈ ri_gT := gi_16 _ (List.mem_of_getElem? (i := 28) rfl)
theorem mgw_1103 : gw_1103 ∈ ri_gT := gi_16 _ (List.mem_of_getElem? (i := 29) rfl)
theorem mgw_1104 : gw_1104 ∈ ri_gT := gi_16 _ (List.mem_of_getElem? (i := 30) rfl)
theorem mgw_1105 : gw_1105 ∈ ri_gT := gi_16 _ (List.mem_of_getElem? (i := 31) rfl)
theorem mgw_1106 : gw_1106 ∈ ri_gT := gi_16 _ (List.mem_of_getElem? (i := 32) rfl)
theorem mgw_1107 : gw_1107 ∈ ri_gT := gi_16 _ (List.mem_of_getElem? (i := 33) rfl)
theorem mgw_1108 : gw_1108 ∈ ri_gT := gi_16 _ (List.mem_of_getElem? (i := 34) rfl)
theorem mgw_1109 : gw_1109 ∈ ri_gT := gi_16 _ (List.mem_of_getElem? (i := 35) rfl)
theorem mgw_1110 : gw_1110 ∈ ri_gT := gi_16 _ (List.mem_of_getElem? (i := 36) rfl)
theorem mgw_1111 : gw_1111 ∈ ri_gT := gi_16 _ (List.mem_of_getElem? (i := 37) rfl)
theorem mgw_1112 : gw_1112 ∈ ri_gT := gi_16 _ (List.mem_of_getElem? (i := 38) rfl)
theorem mgw_1113 : gw_1113 ∈ ri_gT := gi_16 _ (List.mem_of_getElem? (i := 39) rfl)
theorem mgw_1114 : gw_1114 ∈ ri_gT := gi_16 _ (List.mem_of_getElem? (i := 40) rfl)
theorem mgw_1115 : gw_1115 ∈ ri_gT := gi_16 _ (List.mem_of_getElem? (i := 41) rfl)
theorem mgw_1116 : gw_1116 ∈ ri_gT := gi_16 _ (List.mem_of_getElem? (i := 42) rfl)
theorem mgw_1117 : gw_1117 ∈ ri_gT := gi_16 _ (List.mem_of_getElem? (i := 43) rfl)
theorem mgw_1118 : gw_1118 ∈ ri_gT := gi_16 _ (List.mem_of_getElem? (i := 44) rfl)
theorem mgp_0 : gp_0 ∈ ri_gT := gi_16 _ (List.mem_of_getElem? (i := 45) rfl)
theorem mgp_1 : gp_1 ∈ ri_gT := gi_16 _ (List.mem_of_getElem? (i := 46) rfl)
theorem mgp_2 : gp_2 ∈ ri_gT := gi_16 _ (List.mem_of_getElem? (i := 47) rfl)
theorem mgp_3 : gp_3 ∈ ri_gT := gi_17 _ (List.mem_of_getElem? (i := 0) rfl)
theorem mgp_4 : gp_4 ∈ ri_gT := gi_17 _ (List.mem_of_getElem? (i := 1) rfl)
theorem mgp_5 : gp_5 ∈ ri_gT := gi_17 _ (List.mem_of_getElem? (i := 2) rfl)
theorem mgp_6 : gp_6 ∈ ri_gT := gi_17 _ (List.mem_of_getElem? (i := 3) rfl)
theorem mgp_7 : gp_7 ∈ ri_gT := gi_17 _ (List.mem_of_getElem? (i := 4) rfl)
theorem mgp_8 : gp_8 ∈ ri_gT := gi_17 _ (List.mem_of_getElem? (i := 5) rfl)
theorem mgp_9 : gp_9 ∈ ri_gT := gi_17 _ (List.mem_of_getElem? (i := 6) rfl)
theorem mgp_10 : gp_10 ∈ ri_gT := gi_17 _ (List.mem_of_getElem? (i := 7) rfl)
theorem mgp_11 : gp_11 ∈ ri_gT := gi_17 _ (List.mem_of_getElem? (i := 8) rfl)
theorem mgp_12 : gp_12 ∈ ri_gT := gi_17 _ (List.mem_of_getElem? (i := 9) rfl)
theorem mgp_13 : gp_13 ∈ ri_gT := gi_17 _ (List.mem_of_getElem? (i := 10) rfl)
theorem mgp_14 : gp_14 ∈ ri_gT := gi_17 _ (List.mem_of_getElem? (i := 11) rfl)
theorem mgp_15 : gp_15 ∈ ri_gT := gi_17 _ (List.mem_of_getElem? (i := 12) rfl)
theorem mgp_16 : gp_16 ∈ ri_gT := gi_17 _ (List.mem_of_getElem? (i := 13) rfl)
theorem mgp_17 : gp_17 ∈ ri_gT := gi_17 _ (List.mem_of_getElem? (i := 14) rfl)
theorem mgp_18 : gp_18 ∈ ri_gT := gi_17 _ (List.mem_of_getElem? (i := 15) rfl)
theorem mgp_19 : gp_19 ∈ ri_gT := gi_17 _ (List.mem_of_getElem? (i := 16) rfl)
theorem mgp_20 : gp_20 ∈ ri_gT := gi_17 _ (List.mem_of_getElem? (i := 17) rfl)
theorem mgp_21 : gp_21 ∈ ri_gT := gi_17 _ (List.mem_of_getElem? (i := 18) rfl)
theorem mgp_22 : gp_22 ∈ ri_gT := gi_17 _ (List.mem_of_getElem? (i := 19) rfl)
theorem mgp_23 : gp_23 ∈ ri_gT := gi_17 _ (List.mem_of_getElem? (i := 20) rfl)
theorem mgp_24 : gp_24 ∈ ri_gT := gi_17 _ (List.mem_of_getElem? (i := 21) rfl)
theorem mgp_25 : gp_25 ∈ ri_gT := gi_17 _ (List.mem_of_getElem? (i := 22) rfl)
theorem mgp_26 : gp_26 ∈ ri_gT := gi_17 _ (List.mem_of_getElem? (i := 23) rfl)
theorem mgp_27 : gp_27 ∈ ri_gT := gi_17 _ (List.mem_of_getElem? (i := 24) rfl)
theorem mgp_28 : gp_28 ∈ ri_gT := gi_17 _ (List.mem_of_getElem? (i := 25) rfl)
theorem mgp_29 : gp_29 ∈ ri_gT := gi_17 _ (List.mem_of_getElem? (i := 26) rfl)
theorem mgp_30 : gp_30 ∈ ri_gT := gi_17 _ (List.mem_of_getElem? (i := 27) rfl)
theorem mgp_31 : gp_31 ∈ ri_gT := gi_17 _ (List.mem_of_getElem? (i := 28) rfl)
theorem mgp_32 : gp_32 ∈ ri_gT := gi_17 _ (List.mem_of_getElem? (i := 29) rfl)
theorem mgp_33 : gp_33 ∈ ri_gT := gi_17 _ (List.mem_of_getElem? (i := 30) rfl)
theorem mgp_34 : gp_34 ∈ ri_gT := gi_17 _ (List.mem_of_getElem? (i := 31) rfl)
theorem mgp_35 : gp_35 ∈ ri_gT := gi_17 _ (List.mem_of_getElem? (i := 32) rfl)
theorem mgp_36 : gp_36 ∈ ri_gT := gi_17 _ (List.mem_of_getElem? (i := 33) rfl)
theorem mgp_37 : gp_37 ∈ ri_gT := gi_17 _ (List.mem_of_getElem? (i := 34) rfl)
theorem mgp_38 : gp_38 ∈ ri_gT := gi_17 _ (List.mem_of_getElem? (i := 35) rfl)
theorem mgp_39 : gp_39 ∈ ri_gT := gi_17 _ (List.mem_of_getElem? (i := 36) rfl)
theorem mgp_40 : gp_40 ∈ ri_gT := gi_17 _ (List.mem_of_getElem? (i := 37) rfl)
theorem mgp_41 : gp_41 ∈ ri_gT := gi_17 _ (List.mem_of_getElem? (i := 38) rfl)
theorem mgp_42 : gp_42 ∈ ri_gT := gi_17 _ (List.mem_of_getElem? (i := 39) rfl)
theorem mgp_43 : gp_43 ∈ ri_gT := gi_17 _ (List.mem_of_getElem? (i := 40) rfl)
theorem mgp_44 : gp_44 ∈ ri_gT := gi_17 _ (List.mem_of_getElem? (i := 41) rfl)
theorem mgp_45 : gp_45 ∈ ri_gT := gi_17 _ (List.mem_of_getElem? (i := 42) rfl)
theorem mgp_46 : gp_46 ∈ ri_gT := gi_17 _ (List.mem_of_getElem? (i := 43) rfl)
theorem mgp_47 : gp_47 ∈ ri_gT := gi_17 _ (List.mem_of_getElem? (i := 44) rfl)
theorem mgp_48 : gp_48 ∈ ri_gT := gi_17 _ (List.mem_of_getElem? (i := 45) rfl)
theorem mgp_49 : gp_49 ∈ ri_gT := gi_17 _ (List.mem_of_getElem? (i := 46) rfl)
theorem mgp_50 : gp_50 ∈ ri_gT := gi_17 _ (List.mem_of_getElem? (i := 47) rfl)
theorem mgp_51 : gp_51 ∈ ri_gT := gi_18 _ (List.mem_of_getElem? (i := 0) rfl)
theorem mgp_52 : gp_52 ∈ ri_gT := gi_18 _ (List.mem_of_getElem? (i := 1) rfl)
theorem mgp_53 : gp_53 ∈ ri_gT := gi_18 _ (List.mem_of_getElem? (i := 2) rfl)
theorem mgp_54 : gp_54 ∈ ri_gT := gi_18 _ (List.mem_of_getElem? (i := 3) rfl)
theorem mgp_55 : gp_55 ∈ ri_gT := gi_18 _ (List.mem_of_getElem? (i := 4) rfl)
theorem mgp_56 : gp_56 ∈ ri_gT := gi_18 _ (List.mem_of_getElem? (i := 5) rfl)
theorem mgp_57 : gp_57 ∈ ri_gT := gi_18 _ (List.mem_of_getElem? (i := 6) rfl)
theorem mgp_58 : gp_58 ∈ ri_gT := gi_18 _ (List.mem_of_getElem? (i := 7) rfl)
theorem mgp_59 : gp_59 ∈ ri_gT := gi_18 _ (List.mem_of_getElem? (i := 8) rfl)
theorem mgp_60 : gp_60 ∈ ri_gT := gi_18 _ (List.mem_of_getElem? (i := 9) rfl)
theorem mgp_61 : gp_61 ∈ ri_gT := gi_18 _ (List.mem_of_getElem? (i := 10) rfl)
theorem mgp_62 : gp_62 ∈ ri_gT := gi_18 _ (List.mem_of_getElem? (i := 11) rfl)
theorem mgp_63 : gp_63 ∈ ri_gT := gi_18 _ (List.mem_of_getElem? (i := 12) rfl)
theorem mgp_64 : gp_64 ∈ ri_gT := gi_18 _ (List.mem_of_getElem? (i := 13) rfl)
theorem mgp_65 : gp_65 ∈ ri_gT := gi_18 _ (List.mem_of_getElem? (i := 14) rfl)
theorem mgp_66 : gp_66 ∈ ri_gT := gi_18 _ (List.mem_of_getElem? (i := 15) rfl)
theorem mgp_67 : gp_67 ∈ ri_gT := gi_18 _ (List.mem_of_getElem? (i := 16) rfl)
theorem mgp_68 : gp_68 ∈ ri_gT := gi_18 _ (List.mem_of_getElem? (i := 17) rfl)
theorem mgp_69 : gp_69 ∈ ri_gT := gi_18 _ (List.mem_of_getElem? (i := 18) rfl)
theorem mgp_70 : gp_70 ∈ ri_gT := gi_18 _ (List.mem_of_getElem? (i := 19) rfl)
theorem mgp_71 : gp_71 ∈ ri_gT := gi_18 _ (List.mem_of_getElem? (i := 20) rfl)
theorem mgp_72 : gp_72 ∈ ri_gT := gi_18 _ (List.mem_of_getElem? (i := 21) rfl)
theorem mgp_73 : gp_73 ∈ ri_gT := gi_18 _ (List.mem_of_getElem? (i := 22) rfl)
theorem mgp_74 : gp_74 ∈ ri_gT := gi_18 _ (List.mem_of_getElem? (i := 23) rfl)
theorem mgp_75 : gp_75 ∈ ri_gT := gi_18 _ (List.mem_of_getElem? (i := 24) rfl)
theorem mgp_76 : gp_76 ∈ ri_gT := gi_18 _ (List.mem_of_getElem? (i := 25) rfl)
theorem mgp_77 : gp_77 ∈ ri_gT := gi_18 _ (List.mem_of_getElem? (i := 26) rfl)
theorem mgp_78 : gp_78 ∈ ri_gT := gi_18 _ (List.mem_of_getElem? (i := 27) rfl)
theorem mgp_79 : gp_79 ∈ ri_gT := gi_18 _ (List.mem_of_getElem? (i := 28) rfl)
theorem mgp_80 : gp_80 ∈ ri_gT := gi_18 _ (List.mem_of_getElem? (i := 29) rfl)
theorem mgp_81 : gp_81 ∈ ri_gT := gi_18 _ (List.mem_of_getElem? (i := 30) rfl)
theorem mgp_82 : gp_82 ∈ ri_gT := gi_18 _ (List.mem_of_getElem? (i := 31) rfl)
theorem mgp_83 : gp_83 ∈ ri_gT := gi_18 _ (List.mem_of_getElem? (i := 32) rfl)
theorem mgp_84 : gp_84 ∈ ri_gT := gi_18 _ (List.mem_of_getElem? (i := 33) rfl)
theorem mgp_85 : gp_85 ∈ ri_gT := gi_18 _ (List.mem_of_getElem? (i := 34) rfl)
theorem mgp_86 : gp_86 ∈ ri_gT := gi_18 _ (List.mem_of_getElem? (i := 35) rfl)
theorem mgp_87 : gp_87 ∈ ri_gT := gi_18 _ (List.mem_of_getElem? (i := 36) rfl)
theorem mgp_88 : gp_88 ∈ ri_gT := gi_18 _ (List.mem_of_getElem? (i := 37) rfl)
theorem mgp_89 : gp_89 ∈ ri_gT := gi_18 _ (List.mem_of_getElem? (i := 38) rfl)
theorem mgp_90 : gp_90 ∈ ri_gT := gi_18 _ (List.mem_of_getElem? (i := 39) rfl)
theorem mgp_91 : gp_91 ∈ ri_gT := gi_18 _ (List.mem_of_getElem? (i := 40) rfl)
theorem mgp_92 : gp_92 ∈ ri_gT := gi_18 _ (List.mem_of_getElem? (i := 41) rfl)
theorem mgp_93 : gp_93 ∈ ri_gT := gi_18 _ (List.mem_of_getElem? (i := 42) rfl)
theorem mgp_94 : gp_94 ∈ ri_gT := gi_18 _ (List.mem_of_getElem? (i := 43) rfl)
theorem mgp_95 : gp_95 ∈ ri_gT := gi_18 _ (List.mem_of_getElem? (i := 44) rfl)
theorem mgp_96 : gp_96 ∈ ri_gT := gi_18 _ (List.mem_of_getElem? (i := 45) rfl)
end
section
/-! AN ABSTRACT MACHINE over places. A reference is a place: below 16 a static table, from 16 on the cells of the heap in the order in which they were made. An instruction is a predicate transformer; a method is a list of them; whoever is closed under the list holds at the method's entry. -/
abbrev ri_C : Type := (Nat × Nat × ((Nat → Int32) ⊕ (Nat → Option Nat))) ⊕ (Nat × List Value)
abbrev ri_L : Type := List (Option Value)
abbrev ri_K : Type := Nat → Nat → Nat → ri_L → List Value → List ri_C → Prop
abbrev ri_S : Type := ri_K → Nat → Nat → ri_L → List Value → List ri_C → Prop
abbrev ri_O : Type := Option Value → List ri_C → Prop
def ri_at (h : List ri_C) (q : Nat) : Option ri_C := bif Nat.ble 16 q then h[q - 16]? else (ri_ST[q]?).map (fun t => .inl (0, t.2.2.2.1, .inl t.2.2.2.2))
-- the instructions
def i_con (n : Nat) (v : Int32) : ri_S := fun k U V L st h => k n U V L (.int v :: st) h
def i_il (n i : Nat) : ri_S := fun k U V L st h => match L[i]? with
  | some (some (.int x)) => k n U V L (.int x :: st) h
  | _ => False
def i_al (n i : Nat) : ri_S := fun k U V L st h => match L[i]? with
  | some (some (.ref x)) => k n U V L (.ref x :: st) h
  | _ => False
def i_is (n i : Nat) : ri_S := fun k U V L st h => match st with
  | .int x :: r => k n U V (L.set i (some (.int x))) r h
  | _ => False
def i_as (n i : Nat) : ri_S := fun k U V L st h => match st with
  | .ref x :: r => k n U V (L.set i (some (.ref x))) r h
  | _ => False
def i_inc (n i : Nat) (c : Int32) : ri_S := fun k U V L st h => match L[i]? with
  | some (some (.int x)) => k n U V (L.set i (some (.int (x + c)))) st h
  | _ => False
def i_bin (n : Nat) (f : Int32 → Int32 → Int32) : ri_S := fun k U V L st h => match st with
  | .int y :: .int x :: r => k n U V L (.int (f x y) :: r) h
  | _ => False
/-- a division or a rest: the divisor isn't 0 -/
def i_div (n : Nat) (f : Int32 → Int32 → Int32) : ri_S := fun k U V L st h => match st with
  | .int y :: .int x :: r => ¬ y = 0 ∧ k n U V L (.int (f x y) :: r) h
  | _ => False
def i_un (n : Nat) (f : Int32 → Int32) : ri_S := fun k U V L st h => match st with
  | .int x :: r => k n U V L (.int (f x) :: r) h
  | _ => False
def i_if (n t : Nat) (c : Int32 → Prop) : ri_S := fun k U V L st h => match st with
  | .int x :: r => (c x → k t U V L r h) ∧ (¬ c x → k n U V L r h)
  | _ => False
def i_icmp (n t : Nat) (c : Int32 → Int32 → Prop) : ri_S := fun k U V L st h => match st with
  | .int y :: .int x :: r => (c x y → k t U V L r h) ∧ (¬ c x y → k n U V L r h)
  | _ => False
def i_goto (t : Nat) : ri_S := fun k U V L st h => k t U V L st h
def ri_cat1 (v : Value) : Bool := match v with
  | .int _ => true
  | .ref _ => true
  | .null => true
  | _ => false
def i_dup (n : Nat) : ri_S := fun k U V L st h => match st with
  | a :: r => bif ri_cat1 a then k n U V L (a :: a :: r) h else False
  | _ => False
def i_pop (n : Nat) : ri_S := fun k U V L st h => match st with
  | a :: r => bif ri_cat1 a then k n U V L r h else False
  | _ => False
def i_dup2 (n : Nat) : ri_S := fun k U V L st h => match st with
  | a :: b :: r => bif ri_cat1 a && ri_cat1 b then k n U V L (a :: b :: a :: b :: r) h else False
  | _ => False
def i_dupx1 (n : Nat) : ri_S := fun k U V L st h => match st with
  | a :: b :: r => bif ri_cat1 a && ri_cat1 b then k n U V L (a :: b :: a :: r) h else False
  | _ => False
def i_dupx2 (n : Nat) : ri_S := fun k U V L st h => match st with
  | a :: b :: d :: r => bif ri_cat1 a && ri_cat1 b && ri_cat1 d then k n U V L (a :: b :: d :: a :: r) h else False
  | _ => False
def i_get (n ci f : Nat) : ri_S := fun k U V L st h => match st with
  | .ref q :: r => match ri_at h q with
    | some (.inr (c', fs)) => bif Nat.ble 16 q && Nat.beq c' ci then (match fs[f]? with
      | some v => k n U V L (v :: r) h
      | none => False) else False
    | _ => False
  | _ => False
/-- what may be put into a field: an int, a reference (a place of the heap or a table), null -/
def ri_isI (v : Value) : Bool := match v with
  | .int _ => true
  | _ => false
def ri_isR (v : Value) : Bool := match v with
  | .ref _ => true
  | .null => true
  | _ => false
def i_put (n ci f : Nat) (ok : Value → Bool) : ri_S := fun k U V L st h => match st with
  | v :: .ref q :: r => match ri_at h q with
    | some (.inr (c', fs)) => bif ok v && (Nat.ble 16 q && (Nat.beq c' ci && Nat.blt f fs.length)) then k n U V L r (h.set (q - 16) (.inr (c', fs.set f v))) else False
    | _ => False
  | _ => False
def i_gets (n q : Nat) : ri_S := fun k U V L st h => k n U V L (.ref q :: st) h
def i_ald (n kd : Nat) : ri_S := fun k U V L st h => match st with
  | .int i :: .ref q :: r => match ri_at h q with
    | some (.inl (t, N, .inl f)) => vp_in i N ∧ bif Nat.beq t kd then k n U V L (.int (f i.toNatClampNeg) :: r) h else False
    | _ => False
  | _ => False
def i_ast (n kd : Nat) (na : Int32 → Int32) : ri_S := fun k U V L st h => match st with
  | .int x :: .int i :: .ref q :: r => match ri_at h q with
    | some (.inl (t, N, .inl f)) => vp_in i N ∧ bif Nat.ble 16 q && Nat.beq t kd then k n U V L r (h.set (q - 16) (.inl (t, N, .inl (upd f i.toNatClampNeg (na x))))) else False
    | _ => False
  | _ => False
def i_aald (n kd : Nat) : ri_S := fun k U V L st h => match st with
  | .int i :: .ref q :: r => match ri_at h q with
    | some (.inl (t, N, .inr g)) => vp_in i N ∧ bif Nat.ble 16 q && Nat.beq t kd then k n U V L (va_rf (g i.toNatClampNeg) :: r) h else False
    | _ => False
  | _ => False
def i_alen (n : Nat) : ri_S := fun k U V L st h => match st with
  | .ref q :: r => match ri_at h q with
    | some (.inl (t, N, _)) => bif Nat.blt t ri_kt.length then k n U V L (.int (Int32.ofNat N) :: r) h else False
    | _ => False
  | _ => False
def i_call (n na : Nat) (E : List Value → List ri_C → ri_O → Prop) (mc ms RC RS : Nat) : ri_S := fun k U V L st h =>
  bif Nat.ble (U + mc) RC && (Nat.ble (V + ms) RS && (Nat.ble na st.length && Nat.ble ((st.drop na).map Value.category).sum 8)) then (∃ Po : ri_O, E (st.take na).reverse h Po ∧ ∀ r h', Po r h' → k n (U + mc) (V + ms) L (r.toList ++ st.drop na) h') else False
/-- a call of an instance method: the receiver is an object of class ci -/
def i_callV (n na ci : Nat) (E : List Value → List ri_C → ri_O → Prop) (mc ms RC RS : Nat) : ri_S := fun k U V L st h => match (st.take na).reverse with
  | .ref q :: as => match ri_at h q with
    | some (.inr (c', _)) => bif Nat.ble 16 q && (Nat.beq c' ci && (Nat.ble (U + mc) RC && (Nat.ble (V + ms) RS && (Nat.ble na st.length && Nat.ble ((st.drop na).map Value.category).sum 8)))) then (∃ Po : ri_O, E (.ref q :: as) h Po ∧ ∀ r h', Po r h' → k n (U + mc) (V + ms) L (r.toList ++ st.drop na) h') else False
    | _ => False
  | _ => False
def ri_sw (P : Nat → Prop) (x : Int32) : List (Int32 × Nat) → Nat → Prop
  | [], d => P d
  | (v, t) :: r, d => (x = v → P t) ∧ (¬ x = v → ri_sw P x r d)
def i_sw (cs : List (Int32 × Nat)) (d : Nat) : ri_S := fun k U V L st h => match st with
  | .int x :: r => ri_sw (fun t => k t U V L r h) x cs d
  | _ => False
def i_ret (Po : ri_O) (mc ms : Nat) : ri_S := fun _ U V _ st h => match st with
  | [.int v] => bif Nat.ble U mc && Nat.ble V ms then Po (some (.int v)) h else False
  | _ => False
def i_zret (Po : ri_O) (mc ms : Nat) : ri_S := fun _ U V _ st h => match st with
  | [.int v] => bif Nat.ble U mc && Nat.ble V ms then narrow .boolean (.int v) = .int v ∧ Po (some (.int v)) h else False
  | _ => False
def i_vret (Po : ri_O) (mc ms : Nat) : ri_S := fun _ U V _ st h => match st with
  | [] => bif Nat.ble U mc && Nat.ble V ms then Po none h else False
  | _ => False
def i_aret (Po : ri_O) (mc ms : Nat) : ri_S := fun _ U V _ st h => match st with
  | [.ref q] => bif Nat.ble U mc && Nat.ble V ms then Po (some (.ref q)) h else False
  | _ => False
theorem ri_bif {b : Bool} {P : Prop} (h : bif b then P else False) : b = true ∧ P := by
  cases b with
  | true => exact ⟨rfl, h⟩
  | false => exact h.elim
theorem ri_and {a b : Bool} (h : (a && b) = true) : a = true ∧ b = true := by
  cases a <;> cases b <;> first | exact ⟨rfl, rfl⟩ | cases h
-- closed predicates, and runs over a stretch of the list
abbrev ri_snd (J : ri_K) (i : Nat) (f : ri_S) : Prop := ∀ k : ri_K, (∀ j U V L st h, k j U V L st h → J j U V L st h) → ∀ U V L st h, f k U V L st h → J i U V L st h
def ri_clo (J : ri_K) (tab : List ri_S) : Prop := ∀ (i : Nat) (f : ri_S), tab[i]? = some f → ri_snd J i f
def ri_run (tab : List ri_S) (stops : List Nat) (J : ri_K) : Nat → ri_K
  | 0 => J
  | n + 1 => fun i U V L st h => bif stops.contains i then J i U V L st h else (match tab[i]? with
    | some f => f (ri_run tab stops J n) U V L st h
    | none => False)
theorem ri_run_ok {tab : List ri_S} {J : ri_K} (hJ : ri_clo J tab) (stops : List Nat) : ∀ (n i U V : Nat) (L : ri_L) (st : List Value) (h : List ri_C), ri_run tab stops J n i U V L st h → J i U V L st h
  | 0, _, _, _, _, _, _, hr => hr
  | n + 1, i, U, V, L, st, h, hr => by
    unfold ri_run at hr
    cases hs : stops.contains i with
    | true => rw [hs] at hr; exact hr
    | false =>
      rw [hs] at hr
      cases ht : tab[i]? with
      | none => rw [ht] at hr; exact hr.elim
      | some f =>
        rw [ht] at hr
        exact hJ i f ht _ (ri_run_ok hJ stops n) U V L st h hr
/-- one step, then a run -/
theorem ri_go {tab : List ri_S} {J : ri_K} (hJ : ri_clo J tab) (stops : List Nat) (n i : Nat) {f : ri_S} (hf : tab[i]? = some f) {U V : Nat} {L : ri_L} {st : List Value} {h : List ri_C} (hr : f (ri_run tab stops J n) U V L st h) : J i U V L st h := hJ i f hf _ (ri_run_ok hJ stops n) U V L st h hr
end
section
/-! The abstract machine's instructions hold over the machine: a row each. -/
def ri_ad (sa : Nat → Nat) (base k : Nat) : Nat := bif Nat.ble 16 k then base + (k - 16) else sa k
def ri_v (sa : Nat → Nat) (base : Nat) (v : Value) : Value := match v with
  | .ref k => .ref (ri_ad sa base k)
  | v => v
theorem ri_v_cat (sa : Nat → Nat) (base : Nat) (v : Value) : (ri_v sa base v).category = v.category := by cases v <;> rfl
def ri_c (sa : Nat → Nat) (base : Nat) (ka : Nat → ClassId) (e : ri_C) : va_E := match e with
  | .inl (t, n, .inl f) => .inl (ka t, n, .inl f)
  | .inl (t, n, .inr g) => .inl (ka t, n, .inr (.inr (.inr (.inr (fun i => (g i).map (ri_ad sa base))))))
  | .inr (ci, fs) => .inr (ci, fs.map (ri_v sa base))
def ri_w (sa : Nat → Nat) (base : Nat) (ka : Nat → ClassId) (h : List ri_C) : va_W := h.mapIdx (fun j e => (base + j, ri_c sa base ka e))
theorem ri_w_get {sa : Nat → Nat} {base : Nat} {ka : Nat → ClassId} {h : List ri_C} {j : Nat} {e : ri_C} (hj : h[j]? = some e) : (ri_w sa base ka h)[j]? = some (base + j, ri_c sa base ka e) := by
  simp [ri_w, List.getElem?_mapIdx, hj]
theorem ri_w_at {sa : Nat → Nat} {base : Nat} {ka : Nat → ClassId} {h : List ri_C} {j : Nat} {q : Nat × va_E} (hj : (ri_w sa base ka h)[j]? = some q) : q.1 = base + j := by
  simp only [ri_w, List.getElem?_mapIdx, Option.map_eq_some_iff] at hj
  obtain ⟨e, -, rfl⟩ := hj
  rfl
theorem ri_w_D {sa : Nat → Nat} {base : Nat} {ka : Nat → ClassId} {h : List ri_C} : va_D (fun q => base ≤ q) (ri_w sa base ka h) := by
  refine ⟨fun i j x y hi hj hxy => ?_, fun k q hk => ?_⟩
  · have a := ri_w_at hi
    have b := ri_w_at hj
    omega
  · have a := ri_w_at hk
    show base ≤ q.1
    omega
theorem ri_w_set {sa : Nat → Nat} {base : Nat} {ka : Nat → ClassId} {h : List ri_C} {j : Nat} {e : ri_C} : (ri_w sa base ka h).set j (base + j, ri_c sa base ka e) = ri_w sa base ka (h.set j e) := by
  apply List.ext_getElem?
  intro i
  simp only [ri_w, List.getElem?_set, List.getElem?_mapIdx, List.length_mapIdx]
  by_cases hij : j = i
  · subst hij
    by_cases hl : j < h.length <;> simp [hl]
  · simp [hij]
theorem ri_w_app {sa : Nat → Nat} {base : Nat} {ka : Nat → ClassId} {h : List ri_C} {e : ri_C} : ri_w sa base ka (h ++ [e]) = ri_w sa base ka h ++ [(base + h.length, ri_c sa base ka e)] := by
  simp [ri_w, List.mapIdx_append]
def ri_tys (ka : Nat → ClassId) : List (ClassId × FieldType) := ri_kt.mapIdx (fun i t => (ka i, t))
theorem ri_tys_get {ka : Nat → ClassId} {k : Nat} {t : FieldType} (h : ri_kt[k]? = some t) : (ri_tys ka)[k]? = some (ka k, t) := by simp [ri_tys, List.getElem?_mapIdx, h]
def ri_A2 (U : State) : Prop := (Cond.arrayOver (.array .int)).before #[] U = true
theorem ri_A2.moved {u U : State} (hvm : u.vm.Alike U.vm) (h : ri_A2 u) : ri_A2 U := by
  unfold ri_A2 Cond.before Cond.holds at h ⊢
  simp only [Cond.value, beq_iff_eq] at h ⊢
  cases hc : u.vm.findClass (FieldType.array .int).toString with
  | none => simp [hc] at h
  | some comp =>
    simp only [hc, Option.bind_some, Option.bind_eq_some_iff, Option.map_eq_some_iff] at h
    obtain ⟨c, hi, k, hk, hb⟩ := h
    obtain ⟨k', hk', he⟩ := hvm.2.2 _ _ hk
    have f1 : U.vm.findClass (FieldType.array .int).toString = some comp := by rw [hvm.findClass]; exact hc
    have a1 := va_idx_bare U.vm comp
    have a2 := va_idx_bare u.vm comp
    have e : U.vm.bare = u.vm.bare := by first | exact hvm.bare_eq | exact hvm.bare_eq.symm
    rw [e] at a1
    have hi' := a1.symm.trans (a2.trans hi)
    rw [f1, Option.bind_some, Option.bind_eq_some_iff]
    refine ⟨c, hi', ?_⟩
    rw [hk', Option.map_some, he]
    simp only [hvm.findClass]
    exact congrArg some hb
/-- what holds of the tables and of the statics at every state of the run -/
def ri_env (D : va_G) (ka : Nat → ClassId) (sa : Nat → Nat) (base : Nat) (U : State) : Prop :=
  va_K D ri_cl (ri_tys ka) U ∧ (∀ w ∈ ri_NW, va_Nw w U) ∧ ((∀ C ∈ ri_AO, va_AO C U) ∧ ri_A2 U) ∧
  (∀ (j : Nat) (t : String × String × String × Nat × (Nat → Int32)), ri_ST[j]? = some t → va_Z t.1 t.2.1 t.2.2.1 (.ref (sa j)) (fun q => base ≤ q) U U.heap ∧ va_T .int (sa j) t.2.2.2.1 (fun i => .int (t.2.2.2.2 i)) (fun q => base ≤ q) U U.heap) ∧ base ≤ U.heap.size
def ri_l (sa : Nat → Nat) (base : Nat) (ls : Array Slot) (nL : Nat) (L : ri_L) : Prop := ls.size = nL ∧ lv_wf ls ∧ ∀ (i : Nat) (v : Value), L[i]? = some (some v) → ls[i]? = some (.val (ri_v sa base v)) ∧ v.category = 1
def ri_prs (sa : Nat → Nat) (base : Nat) (L : ri_L) : List (Nat × Value) := (List.range L.length).filterMap (fun i => match L[i]? with
  | some (some v) => some (i, ri_v sa base v)
  | _ => none)
theorem ri_prs_in {sa : Nat → Nat} {base : Nat} {L : ri_L} {i : Nat} {v : Value} (h : L[i]? = some (some v)) : (i, ri_v sa base v) ∈ ri_prs sa base L := by
  refine List.mem_filterMap.mpr ⟨i, List.mem_range.mpr (List.getElem?_eq_some_iff.mp h).1, ?_⟩
  rw [h]
theorem ri_l_has {sa : Nat → Nat} {base : Nat} {ls : Array Slot} {nL : Nat} {L : ri_L} (h : ri_l sa base ls nL L) : lv_has ls nL (ri_prs sa base L) := by
  refine ⟨h.1, h.2.1, fun q hq => ?_⟩
  obtain ⟨i, -, e⟩ := List.mem_filterMap.mp hq
  split at e
  · rename_i v hv
    cases e
    exact (h.2.2 i v hv).1
  · cases e
theorem ri_l_put {sa : Nat → Nat} {base : Nat} {ls ls' : Array Slot} {nL i : Nat} {L : ri_L} {x : Value} (hl : ri_l sa base ls nL L) (hc : x.category = 1) (h' : lv_has ls' nL ((i, ri_v sa base x) :: (ri_prs sa base L).filter (fun q => !(q.1 == i) && !(q.1 + 1 == i && q.2.category == 2)))) : ri_l sa base ls' nL (L.set i (some x)) := by
  refine ⟨h'.1, h'.2.1, fun j v hj => ?_⟩
  by_cases e : j = i
  · subst e
    rw [List.getElem?_set] at hj
    simp only [if_true] at hj
    by_cases hlt : j < L.length
    · rw [if_pos hlt] at hj
      cases hj
      exact ⟨h'.2.2 (j, ri_v sa base x) List.mem_cons_self, hc⟩
    · rw [if_neg hlt] at hj
      cases hj
  · rw [List.getElem?_set_ne (Ne.symm e)] at hj
    have h2 := hl.2.2 j v hj
    refine ⟨h'.2.2 (j, ri_v sa base v) (List.mem_cons_of_mem _ (List.mem_filter.mpr ⟨ri_prs_in hj, ?_⟩)), h2.2⟩
    simp [e, ri_v_cat, h2.2]
abbrev ri_H (D : va_G) (ka : Nat → ClassId) (sa : Nat → Nat) (base : Nat) (h : List ri_C) (H : Heap) : Prop := va_P D ri_cl (ri_w sa base ka h) H ∧ H.size = base + h.length
def ri_W (p : Program) (l : Launch) (e : Env) (R : Room) (s : State) (m : MethodId) (args : Array Value) (below : List Frame) (meth : Method) (c : Code) (D : va_G) (ka : Nat → ClassId) (sa : Nat → Nat) (base nL : Nat) (Q : State → Prop) (pf : Nat → Nat) : ri_K := fun i U V L st h =>
  ∀ (H : Heap) (locs : List Loc) (ls : Array Slot), ri_H D ka sa base h H → va_S (fun q => base ≤ q) s.heap H locs → ri_l sa base ls nL L → W p l e R s m args below meth c H locs U V Q (F0 m (pf i) ls (st.map (ri_v sa base)))
def ri_X (p : Program) (s : State) (m : MethodId) (args : Array Value) (c : Code) (cc : ByteArray) (nL : Nat) (Ts : List Cond) (own : String) (D : va_G) (ka : Nat → ClassId) (sa : Nat → Nat) (base : Nat) : Prop :=
  p.tables.exec = Jvm.exec ∧ c.code = cc ∧ c.maxLocals = nL ∧ s.vm.findClass own = some m.cls ∧ (∀ w ∈ Ts, w.before args s = true) ∧ ri_env D ka sa base s
theorem ri_cat1_ok {v : Value} (h : ri_cat1 v = true) : v.category = 1 := by cases v <;> first | rfl | cases h
section RIS
variable {p : Program} {l : Launch} {e : Env} {R : Room} {s : State} {m : MethodId} {args : Array Value} {below : List Frame} {meth : Method} {c : Code} {Q : State → Prop} {cc : ByteArray} {nL : Nat} {Ts : List Cond} {own : String} {D : va_G} {ka : Nat → ClassId} {sa : Nat → Nat} {base : Nat} {pf : Nat → Nat} {i n t : Nat}

theorem s_iconst (X : ri_X p s m args c cc nL Ts own D ka sa base) {z : Int} {v : Int32} (hd : decode cc (pf i) = .ok (.iconst z, 1)) (hv : Int32.ofInt z = v) (hn : pf n = pf i + 1) : ri_snd (ri_W p l e R s m args below meth c D ka sa base nL Q pf) i (i_con n v) := by
  intro k hk U V L st h hf H locs ls hH hS hl
  have hw := hk _ _ _ _ _ _ hf H locs ls hH hS hl
  rw [hn] at hw
  exact lv_iconst X.1 X.2.1 hd hv hw
theorem s_bipush (X : ri_X p s m args c cc nL Ts own D ka sa base) {z : Int} {v : Int32} (hd : decode cc (pf i) = .ok (.bipush z, 2)) (hv : (Int8.ofInt z).toInt32 = v) (hn : pf n = pf i + 2) : ri_snd (ri_W p l e R s m args below meth c D ka sa base nL Q pf) i (i_con n v) := by
  intro k hk U V L st h hf H locs ls hH hS hl
  have hw := hk _ _ _ _ _ _ hf H locs ls hH hS hl
  rw [hn] at hw
  exact lv_bipush X.1 X.2.1 hd hv hw
theorem s_sipush (X : ri_X p s m args c cc nL Ts own D ka sa base) {z : Int} {v : Int32} (hd : decode cc (pf i) = .ok (.sipush z, 3)) (hv : (Int16.ofInt z).toInt32 = v) (hn : pf n = pf i + 3) : ri_snd (ri_W p l e R s m args below meth c D ka sa base nL Q pf) i (i_con n v) := by
  intro k hk U V L st h hf H locs ls hH hS hl
  have hw := hk _ _ _ _ _ _ hf H locs ls hH hS hl
  rw [hn] at hw
  exact lv_sipush X.1 X.2.1 hd hv hw
theorem s_ldc (X : ri_X p s m args c cc nL Ts own D ka sa base) {ix : Nat} {v : Int32} (hd : decode cc (pf i) = .ok (.ldc ix, 2)) (hv : Cond.constant own ix v ∈ Ts) (hn : pf n = pf i + 2) : ri_snd (ri_W p l e R s m args below meth c D ka sa base nL Q pf) i (i_con n v) := by
  intro k hk U V L st h hf H locs ls hH hS hl
  have hw := hk _ _ _ _ _ _ hf H locs ls hH hS hl
  rw [hn] at hw
  exact lv_ldc X.1 X.2.1 X.2.2.2.1 (X.2.2.2.2.1 _ hv) hd hw
theorem s_iload_n (X : ri_X p s m args c cc nL Ts own D ka sa base) {j : Nat} {f : Fin 4} (hd : decode cc (pf i) = .ok (.iload_n f, 1)) (hj : (f : Nat) = j) (hn : pf n = pf i + 1) : ri_snd (ri_W p l e R s m args below meth c D ka sa base nL Q pf) i (i_il n j) := by
  intro k hk U V L st h hf
  unfold i_il at hf
  split at hf
  · rename_i x hx
    intro H locs ls hH hS hl
    have hw := hk _ _ _ _ _ _ hf H locs ls hH hS hl
    rw [hn] at hw
    exact lv_iload_n X.1 X.2.1 hd hj (hl.2.2 j _ hx).1 hw
  · exact hf.elim
theorem s_iload (X : ri_X p s m args c cc nL Ts own D ka sa base) {j : Nat} (hd : decode cc (pf i) = .ok (.iload j, 2)) (hn : pf n = pf i + 2) : ri_snd (ri_W p l e R s m args below meth c D ka sa base nL Q pf) i (i_il n j) := by
  intro k hk U V L st h hf
  unfold i_il at hf
  split at hf
  · rename_i x hx
    intro H locs ls hH hS hl
    have hw := hk _ _ _ _ _ _ hf H locs ls hH hS hl
    rw [hn] at hw
    exact lv_iload X.1 X.2.1 hd (hl.2.2 j _ hx).1 hw
  · exact hf.elim
theorem s_aload_n (X : ri_X p s m args c cc nL Ts own D ka sa base) {j : Nat} {f : Fin 4} (hd : decode cc (pf i) = .ok (.aload_n f, 1)) (hj : (f : Nat) = j) (hn : pf n = pf i + 1) : ri_snd (ri_W p l e R s m args below meth c D ka sa base nL Q pf) i (i_al n j) := by
  intro k hk U V L st h hf
  unfold i_al at hf
  split at hf
  · rename_i x hx
    intro H locs ls hH hS hl
    have hw := hk _ _ _ _ _ _ hf H locs ls hH hS hl
    rw [hn] at hw
    exact lv_aload_n X.1 X.2.1 hd hj (hl.2.2 j _ hx).1 hw
  · exact hf.elim
theorem s_aload (X : ri_X p s m args c cc nL Ts own D ka sa base) {j : Nat} (hd : decode cc (pf i) = .ok (.aload j, 2)) (hn : pf n = pf i + 2) : ri_snd (ri_W p l e R s m args below meth c D ka sa base nL Q pf) i (i_al n j) := by
  intro k hk U V L st h hf
  unfold i_al at hf
  split at hf
  · rename_i x hx
    intro H locs ls hH hS hl
    have hw := hk _ _ _ _ _ _ hf H locs ls hH hS hl
    rw [hn] at hw
    exact lv_aload X.1 X.2.1 hd (hl.2.2 j _ hx).1 hw
  · exact hf.elim
theorem s_istore_n (X : ri_X p s m args c cc nL Ts own D ka sa base) {j : Nat} {f : Fin 4} (hd : decode cc (pf i) = .ok (.istore_n f, 1)) (hj : (f : Nat) = j) (hL : j < nL) (hn : pf n = pf i + 1) : ri_snd (ri_W p l e R s m args below meth c D ka sa base nL Q pf) i (i_is n j) := by
  intro k hk U V L st h hf
  unfold i_is at hf
  split at hf
  · intro H locs ls hH hS hl
    refine lv_istore_n X.1 X.2.1 hd hj (ri_l_has hl) hL rfl (fun ls' h' => ?_)
    have hw := hk _ _ _ _ _ _ hf H locs ls' hH hS (ri_l_put hl rfl h')
    rw [hn] at hw
    exact hw
  · exact hf.elim
theorem s_istore (X : ri_X p s m args c cc nL Ts own D ka sa base) {j : Nat} (hd : decode cc (pf i) = .ok (.istore j, 2)) (hL : j < nL) (hn : pf n = pf i + 2) : ri_snd (ri_W p l e R s m args below meth c D ka sa base nL Q pf) i (i_is n j) := by
  intro k hk U V L st h hf
  unfold i_is at hf
  split at hf
  · intro H locs ls hH hS hl
    refine lv_istore X.1 X.2.1 hd (ri_l_has hl) hL rfl (fun ls' h' => ?_)
    have hw := hk _ _ _ _ _ _ hf H locs ls' hH hS (ri_l_put hl rfl h')
    rw [hn] at hw
    exact hw
  · exact hf.elim
theorem s_astore_n (X : ri_X p s m args c cc nL Ts own D ka sa base) {j : Nat} {f : Fin 4} (hd : decode cc (pf i) = .ok (.astore_n f, 1)) (hj : (f : Nat) = j) (hL : j < nL) (hn : pf n = pf i + 1) : ri_snd (ri_W p l e R s m args below meth c D ka sa base nL Q pf) i (i_as n j) := by
  intro k hk U V L st h hf
  unfold i_as at hf
  split at hf
  · intro H locs ls hH hS hl
    refine lv_astore_n X.1 X.2.1 hd hj (ri_l_has hl) hL rfl (fun ls' h' => ?_)
    have hw := hk _ _ _ _ _ _ hf H locs ls' hH hS (ri_l_put hl rfl h')
    rw [hn] at hw
    exact hw
  · exact hf.elim
theorem s_astore (X : ri_X p s m args c cc nL Ts own D ka sa base) {j : Nat} (hd : decode cc (pf i) = .ok (.astore j, 2)) (hL : j < nL) (hn : pf n = pf i + 2) : ri_snd (ri_W p l e R s m args below meth c D ka sa base nL Q pf) i (i_as n j) := by
  intro k hk U V L st h hf
  unfold i_as at hf
  split at hf
  · intro H locs ls hH hS hl
    refine lv_astore X.1 X.2.1 hd (ri_l_has hl) hL rfl (fun ls' h' => ?_)
    have hw := hk _ _ _ _ _ _ hf H locs ls' hH hS (ri_l_put hl rfl h')
    rw [hn] at hw
    exact hw
  · exact hf.elim
theorem s_iinc (X : ri_X p s m args c cc nL Ts own D ka sa base) {j : Nat} {z : Int} {v : Int32} (hd : decode cc (pf i) = .ok (.iinc j z, 3)) (hv : Int32.ofInt z = v) (hL : j < nL) (hn : pf n = pf i + 3) : ri_snd (ri_W p l e R s m args below meth c D ka sa base nL Q pf) i (i_inc n j v) := by
  subst hv
  intro k hk U V L st h hf
  unfold i_inc at hf
  split at hf
  · rename_i x hx
    intro H locs ls hH hS hl
    obtain ⟨a, ha⟩ := List.getElem?_of_mem (ri_prs_in (sa := sa) (base := base) hx)
    refine lv_iinc X.1 X.2.1 hd (ri_l_has hl) ha rfl hL rfl (fun ls' h' => ?_)
    have hw := hk _ _ _ _ _ _ hf H locs ls' hH hS (ri_l_put (x := .int (x + Int32.ofInt z)) hl rfl h')
    rw [hn] at hw
    exact hw
  · exact hf.elim
theorem s_iadd (X : ri_X p s m args c cc nL Ts own D ka sa base) (hd : decode cc (pf i) = .ok (.iadd, 1)) (hn : pf n = pf i + 1) : ri_snd (ri_W p l e R s m args below meth c D ka sa base nL Q pf) i (i_bin n (fun x y => x + y)) := by
  intro k hk U V L st h hf
  unfold i_bin at hf
  split at hf
  · intro H locs ls hH hS hl
    have hw := hk _ _ _ _ _ _ hf H locs ls hH hS hl
    rw [hn] at hw
    exact lv_iadd X.1 X.2.1 hd hw
  · exact hf.elim
theorem s_isub (X : ri_X p s m args c cc nL Ts own D ka sa base) (hd : decode cc (pf i) = .ok (.isub, 1)) (hn : pf n = pf i + 1) : ri_snd (ri_W p l e R s m args below meth c D ka sa base nL Q pf) i (i_bin n (fun x y => x - y)) := by
  intro k hk U V L st h hf
  unfold i_bin at hf
  split at hf
  · intro H locs ls hH hS hl
    have hw := hk _ _ _ _ _ _ hf H locs ls hH hS hl
    rw [hn] at hw
    exact lv_isub X.1 X.2.1 hd hw
  · exact hf.elim
theorem s_imul (X : ri_X p s m args c cc nL Ts own D ka sa base) (hd : decode cc (pf i) = .ok (.imul, 1)) (hn : pf n = pf i + 1) : ri_snd (ri_W p l e R s m args below meth c D ka sa base nL Q pf) i (i_bin n (fun x y => x * y)) := by
  intro k hk U V L st h hf
  unfold i_bin at hf
  split at hf
  · intro H locs ls hH hS hl
    have hw := hk _ _ _ _ _ _ hf H locs ls hH hS hl
    rw [hn] at hw
    exact lv_imul X.1 X.2.1 hd hw
  · exact hf.elim
theorem s_iand (X : ri_X p s m args c cc nL Ts own D ka sa base) (hd : decode cc (pf i) = .ok (.iand, 1)) (hn : pf n = pf i + 1) : ri_snd (ri_W p l e R s m args below meth c D ka sa base nL Q pf) i (i_bin n (fun x y => x &&& y)) := by
  intro k hk U V L st h hf
  unfold i_bin at hf
  split at hf
  · intro H locs ls hH hS hl
    have hw := hk _ _ _ _ _ _ hf H locs ls hH hS hl
    rw [hn] at hw
    exact lv_iand X.1 X.2.1 hd hw
  · exact hf.elim
theorem s_ior (X : ri_X p s m args c cc nL Ts own D ka sa base) (hd : decode cc (pf i) = .ok (.ior, 1)) (hn : pf n = pf i + 1) : ri_snd (ri_W p l e R s m args below meth c D ka sa base nL Q pf) i (i_bin n (fun x y => x ||| y)) := by
  intro k hk U V L st h hf
  unfold i_bin at hf
  split at hf
  · intro H locs ls hH hS hl
    have hw := hk _ _ _ _ _ _ hf H locs ls hH hS hl
    rw [hn] at hw
    exact lv_ior X.1 X.2.1 hd hw
  · exact hf.elim
theorem s_ixor (X : ri_X p s m args c cc nL Ts own D ka sa base) (hd : decode cc (pf i) = .ok (.ixor, 1)) (hn : pf n = pf i + 1) : ri_snd (ri_W p l e R s m args below meth c D ka sa base nL Q pf) i (i_bin n (fun x y => x ^^^ y)) := by
  intro k hk U V L st h hf
  unfold i_bin at hf
  split at hf
  · intro H locs ls hH hS hl
    have hw := hk _ _ _ _ _ _ hf H locs ls hH hS hl
    rw [hn] at hw
    exact lv_ixor X.1 X.2.1 hd hw
  · exact hf.elim
theorem s_ishl (X : ri_X p s m args c cc nL Ts own D ka sa base) (hd : decode cc (pf i) = .ok (.ishl, 1)) (hn : pf n = pf i + 1) : ri_snd (ri_W p l e R s m args below meth c D ka sa base nL Q pf) i (i_bin n (fun x y => x <<< (y &&& 31))) := by
  intro k hk U V L st h hf
  unfold i_bin at hf
  split at hf
  · intro H locs ls hH hS hl
    have hw := hk _ _ _ _ _ _ hf H locs ls hH hS hl
    rw [hn] at hw
    exact lv_ishl X.1 X.2.1 hd hw
  · exact hf.elim
theorem s_ishr (X : ri_X p s m args c cc nL Ts own D ka sa base) (hd : decode cc (pf i) = .ok (.ishr, 1)) (hn : pf n = pf i + 1) : ri_snd (ri_W p l e R s m args below meth c D ka sa base nL Q pf) i (i_bin n (fun x y => x >>> (y &&& 31))) := by
  intro k hk U V L st h hf
  unfold i_bin at hf
  split at hf
  · intro H locs ls hH hS hl
    have hw := hk _ _ _ _ _ _ hf H locs ls hH hS hl
    rw [hn] at hw
    exact lv_ishr X.1 X.2.1 hd hw
  · exact hf.elim
theorem s_iushr (X : ri_X p s m args c cc nL Ts own D ka sa base) (hd : decode cc (pf i) = .ok (.iushr, 1)) (hn : pf n = pf i + 1) : ri_snd (ri_W p l e R s m args below meth c D ka sa base nL Q pf) i (i_bin n (fun x y => (x.toUInt32 >>> (y.toUInt32 &&& Int32.toUInt32 31)).toInt32)) := by
  intro k hk U V L st h hf
  unfold i_bin at hf
  split at hf
  · intro H locs ls hH hS hl
    have hw := hk _ _ _ _ _ _ hf H locs ls hH hS hl
    rw [hn] at hw
    exact lv_iushr X.1 X.2.1 hd rfl hw
  · exact hf.elim
theorem s_idiv (X : ri_X p s m args c cc nL Ts own D ka sa base) (hd : decode cc (pf i) = .ok (.idiv, 1)) (hn : pf n = pf i + 1) : ri_snd (ri_W p l e R s m args below meth c D ka sa base nL Q pf) i (i_div n (fun x y => x / y)) := by
  intro k hk U V L st h hf
  unfold i_div at hf
  split at hf
  · intro H locs ls hH hS hl
    have hw := hk _ _ _ _ _ _ hf.2 H locs ls hH hS hl
    rw [hn] at hw
    exact lv_idiv X.1 X.2.1 hd hf.1 hw
  · exact hf.elim
theorem s_irem (X : ri_X p s m args c cc nL Ts own D ka sa base) (hd : decode cc (pf i) = .ok (.irem, 1)) (hn : pf n = pf i + 1) : ri_snd (ri_W p l e R s m args below meth c D ka sa base nL Q pf) i (i_div n (fun x y => x - x / y * y)) := by
  intro k hk U V L st h hf
  unfold i_div at hf
  split at hf
  · intro H locs ls hH hS hl
    have hw := hk _ _ _ _ _ _ hf.2 H locs ls hH hS hl
    rw [hn] at hw
    exact lv_irem X.1 X.2.1 hd hf.1 hw
  · exact hf.elim
theorem s_ineg (X : ri_X p s m args c cc nL Ts own D ka sa base) (hd : decode cc (pf i) = .ok (.ineg, 1)) (hn : pf n = pf i + 1) : ri_snd (ri_W p l e R s m args below meth c D ka sa base nL Q pf) i (i_un n (fun x => -x)) := by
  intro k hk U V L st h hf
  unfold i_un at hf
  split at hf
  · intro H locs ls hH hS hl
    have hw := hk _ _ _ _ _ _ hf H locs ls hH hS hl
    rw [hn] at hw
    exact lv_ineg X.1 X.2.1 hd hw
  · exact hf.elim
theorem s_if_eq (X : ri_X p s m args c cc nL Ts own D ka sa base) {off : Int} (hd : decode cc (pf i) = .ok (.ifCond .eq off, 3)) (ht : (pf i : Int) + off = (pf t : Int)) (hn : pf n = pf i + 3) : ri_snd (ri_W p l e R s m args below meth c D ka sa base nL Q pf) i (i_if n t (fun x => x = 0)) := by
  intro k hk U V L st h hf
  unfold i_if at hf
  split at hf
  · intro H locs ls hH hS hl
    refine lv_if_eq X.1 X.2.1 hd ht (fun q => hk _ _ _ _ _ _ (hf.1 q) H locs ls hH hS hl) (fun q => ?_)
    have hw := hk _ _ _ _ _ _ (hf.2 (by first | exact q | exact fun z => z q)) H locs ls hH hS hl
    rw [hn] at hw
    exact hw
  · exact hf.elim
theorem s_icmp_eq (X : ri_X p s m args c cc nL Ts own D ka sa base) {off : Int} (hd : decode cc (pf i) = .ok (.if_icmp .eq off, 3)) (ht : (pf i : Int) + off = (pf t : Int)) (hn : pf n = pf i + 3) : ri_snd (ri_W p l e R s m args below meth c D ka sa base nL Q pf) i (i_icmp n t (fun x y => x = y)) := by
  intro k hk U V L st h hf
  unfold i_icmp at hf
  split at hf
  · intro H locs ls hH hS hl
    refine lv_icmp_eq X.1 X.2.1 hd ht (fun q => hk _ _ _ _ _ _ (hf.1 q) H locs ls hH hS hl) (fun q => ?_)
    have hw := hk _ _ _ _ _ _ (hf.2 (by first | exact q | exact fun z => z q)) H locs ls hH hS hl
    rw [hn] at hw
    exact hw
  · exact hf.elim
theorem s_if_ne (X : ri_X p s m args c cc nL Ts own D ka sa base) {off : Int} (hd : decode cc (pf i) = .ok (.ifCond .ne off, 3)) (ht : (pf i : Int) + off = (pf t : Int)) (hn : pf n = pf i + 3) : ri_snd (ri_W p l e R s m args below meth c D ka sa base nL Q pf) i (i_if n t (fun x => ¬ x = 0)) := by
  intro k hk U V L st h hf
  unfold i_if at hf
  split at hf
  · intro H locs ls hH hS hl
    refine lv_if_ne X.1 X.2.1 hd ht (fun q => hk _ _ _ _ _ _ (hf.1 q) H locs ls hH hS hl) (fun q => ?_)
    have hw := hk _ _ _ _ _ _ (hf.2 (by first | exact q | exact fun z => z q)) H locs ls hH hS hl
    rw [hn] at hw
    exact hw
  · exact hf.elim
theorem s_icmp_ne (X : ri_X p s m args c cc nL Ts own D ka sa base) {off : Int} (hd : decode cc (pf i) = .ok (.if_icmp .ne off, 3)) (ht : (pf i : Int) + off = (pf t : Int)) (hn : pf n = pf i + 3) : ri_snd (ri_W p l e R s m args below meth c D ka sa base nL Q pf) i (i_icmp n t (fun x y => ¬ x = y)) := by
  intro k hk U V L st h hf
  unfold i_icmp at hf
  split at hf
  · intro H locs ls hH hS hl
    refine lv_icmp_ne X.1 X.2.1 hd ht (fun q => hk _ _ _ _ _ _ (hf.1 q) H locs ls hH hS hl) (fun q => ?_)
    have hw := hk _ _ _ _ _ _ (hf.2 (by first | exact q | exact fun z => z q)) H locs ls hH hS hl
    rw [hn] at hw
    exact hw
  · exact hf.elim
theorem s_if_lt (X : ri_X p s m args c cc nL Ts own D ka sa base) {off : Int} (hd : decode cc (pf i) = .ok (.ifCond .lt off, 3)) (ht : (pf i : Int) + off = (pf t : Int)) (hn : pf n = pf i + 3) : ri_snd (ri_W p l e R s m args below meth c D ka sa base nL Q pf) i (i_if n t (fun x => x < 0)) := by
  intro k hk U V L st h hf
  unfold i_if at hf
  split at hf
  · intro H locs ls hH hS hl
    refine lv_if_lt X.1 X.2.1 hd ht (fun q => hk _ _ _ _ _ _ (hf.1 q) H locs ls hH hS hl) (fun q => ?_)
    have hw := hk _ _ _ _ _ _ (hf.2 (by first | exact q | exact fun z => z q)) H locs ls hH hS hl
    rw [hn] at hw
    exact hw
  · exact hf.elim
theorem s_icmp_lt (X : ri_X p s m args c cc nL Ts own D ka sa base) {off : Int} (hd : decode cc (pf i) = .ok (.if_icmp .lt off, 3)) (ht : (pf i : Int) + off = (pf t : Int)) (hn : pf n = pf i + 3) : ri_snd (ri_W p l e R s m args below meth c D ka sa base nL Q pf) i (i_icmp n t (fun x y => x < y)) := by
  intro k hk U V L st h hf
  unfold i_icmp at hf
  split at hf
  · intro H locs ls hH hS hl
    refine lv_icmp_lt X.1 X.2.1 hd ht (fun q => hk _ _ _ _ _ _ (hf.1 q) H locs ls hH hS hl) (fun q => ?_)
    have hw := hk _ _ _ _ _ _ (hf.2 (by first | exact q | exact fun z => z q)) H locs ls hH hS hl
    rw [hn] at hw
    exact hw
  · exact hf.elim
theorem s_if_ge (X : ri_X p s m args c cc nL Ts own D ka sa base) {off : Int} (hd : decode cc (pf i) = .ok (.ifCond .ge off, 3)) (ht : (pf i : Int) + off = (pf t : Int)) (hn : pf n = pf i + 3) : ri_snd (ri_W p l e R s m args below meth c D ka sa base nL Q pf) i (i_if n t (fun x => 0 ≤ x)) := by
  intro k hk U V L st h hf
  unfold i_if at hf
  split at hf
  · intro H locs ls hH hS hl
    refine lv_if_ge X.1 X.2.1 hd ht (fun q => hk _ _ _ _ _ _ (hf.1 q) H locs ls hH hS hl) (fun q => ?_)
    have hw := hk _ _ _ _ _ _ (hf.2 (by first | exact q | exact fun z => z q)) H locs ls hH hS hl
    rw [hn] at hw
    exact hw
  · exact hf.elim
theorem s_icmp_ge (X : ri_X p s m args c cc nL Ts own D ka sa base) {off : Int} (hd : decode cc (pf i) = .ok (.if_icmp .ge off, 3)) (ht : (pf i : Int) + off = (pf t : Int)) (hn : pf n = pf i + 3) : ri_snd (ri_W p l e R s m args below meth c D ka sa base nL Q pf) i (i_icmp n t (fun x y => y ≤ x)) := by
  intro k hk U V L st h hf
  unfold i_icmp at hf
  split at hf
  · intro H locs ls hH hS hl
    refine lv_icmp_ge X.1 X.2.1 hd ht (fun q => hk _ _ _ _ _ _ (hf.1 q) H locs ls hH hS hl) (fun q => ?_)
    have hw := hk _ _ _ _ _ _ (hf.2 (by first | exact q | exact fun z => z q)) H locs ls hH hS hl
    rw [hn] at hw
    exact hw
  · exact hf.elim
theorem s_if_gt (X : ri_X p s m args c cc nL Ts own D ka sa base) {off : Int} (hd : decode cc (pf i) = .ok (.ifCond .gt off, 3)) (ht : (pf i : Int) + off = (pf t : Int)) (hn : pf n = pf i + 3) : ri_snd (ri_W p l e R s m args below meth c D ka sa base nL Q pf) i (i_if n t (fun x => 0 < x)) := by
  intro k hk U V L st h hf
  unfold i_if at hf
  split at hf
  · intro H locs ls hH hS hl
    refine lv_if_gt X.1 X.2.1 hd ht (fun q => hk _ _ _ _ _ _ (hf.1 q) H locs ls hH hS hl) (fun q => ?_)
    have hw := hk _ _ _ _ _ _ (hf.2 (by first | exact q | exact fun z => z q)) H locs ls hH hS hl
    rw [hn] at hw
    exact hw
  · exact hf.elim
theorem s_icmp_gt (X : ri_X p s m args c cc nL Ts own D ka sa base) {off : Int} (hd : decode cc (pf i) = .ok (.if_icmp .gt off, 3)) (ht : (pf i : Int) + off = (pf t : Int)) (hn : pf n = pf i + 3) : ri_snd (ri_W p l e R s m args below meth c D ka sa base nL Q pf) i (i_icmp n t (fun x y => y < x)) := by
  intro k hk U V L st h hf
  unfold i_icmp at hf
  split at hf
  · intro H locs ls hH hS hl
    refine lv_icmp_gt X.1 X.2.1 hd ht (fun q => hk _ _ _ _ _ _ (hf.1 q) H locs ls hH hS hl) (fun q => ?_)
    have hw := hk _ _ _ _ _ _ (hf.2 (by first | exact q | exact fun z => z q)) H locs ls hH hS hl
    rw [hn] at hw
    exact hw
  · exact hf.elim
theorem s_if_le (X : ri_X p s m args c cc nL Ts own D ka sa base) {off : Int} (hd : decode cc (pf i) = .ok (.ifCond .le off, 3)) (ht : (pf i : Int) + off = (pf t : Int)) (hn : pf n = pf i + 3) : ri_snd (ri_W p l e R s m args below meth c D ka sa base nL Q pf) i (i_if n t (fun x => x ≤ 0)) := by
  intro k hk U V L st h hf
  unfold i_if at hf
  split at hf
  · intro H locs ls hH hS hl
    refine lv_if_le X.1 X.2.1 hd ht (fun q => hk _ _ _ _ _ _ (hf.1 q) H locs ls hH hS hl) (fun q => ?_)
    have hw := hk _ _ _ _ _ _ (hf.2 (by first | exact q | exact fun z => z q)) H locs ls hH hS hl
    rw [hn] at hw
    exact hw
  · exact hf.elim
theorem s_icmp_le (X : ri_X p s m args c cc nL Ts own D ka sa base) {off : Int} (hd : decode cc (pf i) = .ok (.if_icmp .le off, 3)) (ht : (pf i : Int) + off = (pf t : Int)) (hn : pf n = pf i + 3) : ri_snd (ri_W p l e R s m args below meth c D ka sa base nL Q pf) i (i_icmp n t (fun x y => x ≤ y)) := by
  intro k hk U V L st h hf
  unfold i_icmp at hf
  split at hf
  · intro H locs ls hH hS hl
    refine lv_icmp_le X.1 X.2.1 hd ht (fun q => hk _ _ _ _ _ _ (hf.1 q) H locs ls hH hS hl) (fun q => ?_)
    have hw := hk _ _ _ _ _ _ (hf.2 (by first | exact q | exact fun z => z q)) H locs ls hH hS hl
    rw [hn] at hw
    exact hw
  · exact hf.elim
theorem s_goto (X : ri_X p s m args c cc nL Ts own D ka sa base) {off : Int} (hd : decode cc (pf i) = .ok (.goto off, 3)) (ht : (pf i : Int) + off = (pf t : Int)) : ri_snd (ri_W p l e R s m args below meth c D ka sa base nL Q pf) i (i_goto t) := by
  intro k hk U V L st h hf H locs ls hH hS hl
  exact lv_goto X.1 X.2.1 hd ht (hk _ _ _ _ _ _ hf H locs ls hH hS hl)
theorem s_dup (X : ri_X p s m args c cc nL Ts own D ka sa base) (hd : decode cc (pf i) = .ok (.dup, 1)) (hn : pf n = pf i + 1) : ri_snd (ri_W p l e R s m args below meth c D ka sa base nL Q pf) i (i_dup n) := by
  intro k hk U V L st h hf
  unfold i_dup at hf
  split at hf
  · rename_i a r
    cases ha : ri_cat1 a with
    | false => rw [ha] at hf; exact hf.elim
    | true =>
      rw [ha] at hf
      intro H locs ls hH hS hl
      have hw := hk _ _ _ _ _ _ hf H locs ls hH hS hl
      rw [hn] at hw
      exact lv_dup X.1 X.2.1 hd (by rw [ri_v_cat]; exact ri_cat1_ok ha) hw
  · exact hf.elim
theorem s_pop (X : ri_X p s m args c cc nL Ts own D ka sa base) (hd : decode cc (pf i) = .ok (.pop, 1)) (hn : pf n = pf i + 1) : ri_snd (ri_W p l e R s m args below meth c D ka sa base nL Q pf) i (i_pop n) := by
  intro k hk U V L st h hf
  unfold i_pop at hf
  split at hf
  · rename_i a r
    cases ha : ri_cat1 a with
    | false => rw [ha] at hf; exact hf.elim
    | true =>
      rw [ha] at hf
      intro H locs ls hH hS hl
      have hw := hk _ _ _ _ _ _ hf H locs ls hH hS hl
      rw [hn] at hw
      exact lv_pop X.1 X.2.1 hd (va := ri_v sa base a) (by rw [ri_v_cat]; exact ri_cat1_ok ha) hw
  · exact hf.elim
theorem s_dup2 (X : ri_X p s m args c cc nL Ts own D ka sa base) (hd : decode cc (pf i) = .ok (.dup2, 1)) (hn : pf n = pf i + 1) : ri_snd (ri_W p l e R s m args below meth c D ka sa base nL Q pf) i (i_dup2 n) := by
  intro k hk U V L st h hf
  unfold i_dup2 at hf
  split at hf
  · rename_i a b r
    cases ha : ri_cat1 a <;> cases hb : ri_cat1 b <;> rw [ha, hb] at hf <;> first | exact hf.elim | skip
    intro H locs ls hH hS hl
    have hw := hk _ _ _ _ _ _ hf H locs ls hH hS hl
    rw [hn] at hw
    exact lv_dup2_11 X.1 X.2.1 hd (va := ri_v sa base a) (vb := ri_v sa base b) (by rw [ri_v_cat]; exact ri_cat1_ok ha) (by rw [ri_v_cat]; exact ri_cat1_ok hb) hw
  · exact hf.elim
theorem s_dup_x1 (X : ri_X p s m args c cc nL Ts own D ka sa base) (hd : decode cc (pf i) = .ok (.dup_x1, 1)) (hn : pf n = pf i + 1) : ri_snd (ri_W p l e R s m args below meth c D ka sa base nL Q pf) i (i_dupx1 n) := by
  intro k hk U V L st h hf
  unfold i_dupx1 at hf
  split at hf
  · rename_i a b r
    cases ha : ri_cat1 a <;> cases hb : ri_cat1 b <;> rw [ha, hb] at hf <;> first | exact hf.elim | skip
    intro H locs ls hH hS hl
    have hw := hk _ _ _ _ _ _ hf H locs ls hH hS hl
    rw [hn] at hw
    exact lv_dup_x1 X.1 X.2.1 hd (va := ri_v sa base a) (vb := ri_v sa base b) (by rw [ri_v_cat]; exact ri_cat1_ok ha) (by rw [ri_v_cat]; exact ri_cat1_ok hb) hw
  · exact hf.elim
theorem s_dup_x2 (X : ri_X p s m args c cc nL Ts own D ka sa base) (hd : decode cc (pf i) = .ok (.dup_x2, 1)) (hn : pf n = pf i + 1) : ri_snd (ri_W p l e R s m args below meth c D ka sa base nL Q pf) i (i_dupx2 n) := by
  intro k hk U V L st h hf
  unfold i_dupx2 at hf
  split at hf
  · rename_i a b d r
    cases ha : ri_cat1 a <;> cases hb : ri_cat1 b <;> cases hd3 : ri_cat1 d <;> rw [ha, hb, hd3] at hf <;> first | exact hf.elim | skip
    intro H locs ls hH hS hl
    have hw := hk _ _ _ _ _ _ hf H locs ls hH hS hl
    rw [hn] at hw
    exact lv_dup_x2 X.1 X.2.1 hd (va := ri_v sa base a) (vb := ri_v sa base b) (vd := ri_v sa base d) (by rw [ri_v_cat]; exact ri_cat1_ok ha) (by rw [ri_v_cat]; exact ri_cat1_ok hb) (by rw [ri_v_cat]; exact ri_cat1_ok hd3) hw
  · exact hf.elim
end RIS
end
section
/-! fields, arrays, statics, new, switches, ends -/
theorem ri_at_hi {h : List ri_C} {q : Nat} (hq : Nat.ble 16 q = true) : ri_at h q = h[q - 16]? := by unfold ri_at; rw [hq]; rfl
theorem ri_at_lo {h : List ri_C} {q : Nat} (hq : Nat.ble 16 q = false) : ri_at h q = (ri_ST[q]?).map (fun t => .inl (0, t.2.2.2.1, .inl t.2.2.2.2)) := by unfold ri_at; rw [hq]; rfl
theorem ri_ad_hi {sa : Nat → Nat} {base q : Nat} (hq : Nat.ble 16 q = true) : ri_ad sa base q = base + (q - 16) := by unfold ri_ad; rw [hq]; rfl
theorem ri_ad_lo {sa : Nat → Nat} {base q : Nat} (hq : Nat.ble 16 q = false) : ri_ad sa base q = sa q := by unfold ri_ad; rw [hq]; rfl
theorem ri_rf {sa : Nat → Nat} {base : Nat} (r : Option Nat) : ri_v sa base (va_rf r) = va_rf (r.map (ri_ad sa base)) := by cases r <;> rfl
section RIT
variable {p : Program} {l : Launch} {e : Env} {R : Room} {s : State} {m : MethodId} {args : Array Value} {below : List Frame} {meth : Method} {c : Code} {Q : State → Prop} {cc : ByteArray} {nL : Nat} {Ts : List Cond} {own : String} {D : va_G} {ka : Nat → ClassId} {sa : Nat → Nat} {base : Nat} {pf : Nat → Nat} {i n t : Nat}

theorem s_get (X : ri_X p s m args c cc nL Ts own D ka sa base) {ci f ix N : Nat} {C : String} {T : u_T} (hc : ri_cl[ci]? = some (C, T, N)) (hin : ∀ w ∈ u_ws C T N, w ∈ Ts) (hfN : f < N) (hlink : Cond.fieldLink own ix (T f).1 (T f).2.1 (T f).2.2.1 ∈ Ts) (hd : decode cc (pf i) = .ok (.getfield ix, 3)) (hn : pf n = pf i + 3) : ri_snd (ri_W p l e R s m args below meth c D ka sa base nL Q pf) i (i_get n ci f) := by
  intro k hk U V L st h hf
  unfold i_get at hf
  split at hf
  · rename_i q r
    split at hf
    · rename_i c' fs hat
      replace hf := ri_bif hf; obtain ⟨hB, hf⟩ := hf
      obtain ⟨hq, hb⟩ := ri_and hB
      have hcc : c' = ci := Nat.eq_of_beq_eq_true hb
      subst hcc
      rw [ri_at_hi hq] at hat
      split at hf
      · rename_i v hv
        intro H locs ls hH hS hl
        have hw := hk _ _ _ _ _ _ hf H locs ls hH hS hl
        rw [hn] at hw
        show W p l e R s m args below meth c H locs U V Q (F0 m (pf i) ls (.ref (ri_ad sa base q) :: r.map (ri_v sa base)))
        rw [ri_ad_hi hq]
        exact va_get X.1 X.2.1 X.2.2.2.2.1 hin X.2.2.2.1 X.2.2.2.2.2.1 hH.1 (q - 16) (fs := fs.map (ri_v sa base)) (ri_w_get hat) hc f hfN (X.2.2.2.2.1 _ hlink) (fun _ z => z) (v := ri_v sa base v) (by simp [hv]) hd hw
      · exact hf.elim
    · exact hf.elim
  · exact hf.elim
theorem s_getN (X : ri_X p s m args c cc nL Ts own D ka sa base) {ci f ix N : Nat} {C : String} {T : u_T} (hc : ri_cl[ci]? = some (C, T, N)) (hin : ∀ w ∈ u_ws C T N, w ∈ Ts) (hfN : f < N) {host : String} (hlink : Cond.fieldLinkNest own ix (T f).1 (T f).2.1 (T f).2.2.1 host ∈ ri_NW) (hd : decode cc (pf i) = .ok (.getfield ix, 3)) (hn : pf n = pf i + 3) : ri_snd (ri_W p l e R s m args below meth c D ka sa base nL Q pf) i (i_get n ci f) := by
  intro k hk U V L st h hf
  unfold i_get at hf
  split at hf
  · rename_i q r
    split at hf
    · rename_i c' fs hat
      replace hf := ri_bif hf; obtain ⟨hB, hf⟩ := hf
      obtain ⟨hq, hb⟩ := ri_and hB
      have hcc : c' = ci := Nat.eq_of_beq_eq_true hb
      subst hcc
      rw [ri_at_hi hq] at hat
      split at hf
      · rename_i v hv
        intro H locs ls hH hS hl
        have hw := hk _ _ _ _ _ _ hf H locs ls hH hS hl
        rw [hn] at hw
        show W p l e R s m args below meth c H locs U V Q (F0 m (pf i) ls (.ref (ri_ad sa base q) :: r.map (ri_v sa base)))
        rw [ri_ad_hi hq]
        exact va_getN X.1 X.2.1 X.2.2.2.2.1 hin X.2.2.2.1 X.2.2.2.2.2.1 hH.1 (q - 16) (fs := fs.map (ri_v sa base)) (ri_w_get hat) hc f hfN (va_Nw.use rfl (X.2.2.2.2.2.2.1 _ hlink)) (fun _ z => z) (v := ri_v sa base v) (by simp [hv]) hd hw
      · exact hf.elim
    · exact hf.elim
  · exact hf.elim
theorem ri_put_core (X : ri_X p s m args c cc nL Ts own D ka sa base) {ci f N : Nat} {C : String} {T : u_T} (hc : ri_cl[ci]? = some (C, T, N)) (hin : ∀ w ∈ u_ws C T N, w ∈ Ts) (hfN : f < N) (ty0 : Nat → FieldType) (hty : ∀ k, k < N → parseFieldDescriptor (T k).2.2.1 = some (ty0 k)) (hnm : ∀ a, a < N → ∀ b, b < N → a ≠ b → (T a).2.1 ≠ (T b).2.1) {h : List ri_C} {j : Nat} {fs : List Value} {v : Value} (hat : h[j]? = some (.inr (ci, fs))) (hlen : f < fs.length) {H : Heap} (hH : ri_H D ka sa base h H) :
    ∃ (cf fi : Nat) (kf : Class) (fd : Field) (cell : Cell), s.fieldFound? (T f).1 (T f).2.1 (T f).2.2.1 = some (cf, kf, fi, fd) ∧ fd.isStatic = false ∧ H[base + j]? = some cell ∧ cell.cls = D.1 ci ∧ cell.vm = .none ∧ fd.slot < cell.slots.size ∧
      (∀ H' : Heap, H'[base + j]? = some (cell.setSlot fd.slot (ri_v sa base v)) → H'.size = H.size → (∀ q, q ≠ base + j → H'[q]? = H[q]?) → ri_H D ka sa base (h.set j (.inr (ci, fs.set f v))) H') := by
  have hap := va_apart (own := own) X.2.2.2.2.1 hin ty0 hty hnm X.2.2.2.2.2.1 hc
  have he := ri_w_get (sa := sa) (base := base) (ka := ka) hat
  obtain ⟨r, h1, cell, q1, q2, q3, q4⟩ := hH.1 j _ he
  have hr : r = (C, T, N) := Option.some.inj (h1.symm.trans hc)
  subst hr
  obtain ⟨hS, hfc, kC, hkC, hkind⟩ := X.2.2.2.2.2.1.1 ci _ hc
  obtain ⟨cf, kf, fi, fd, hi, hsl⟩ := hS f hfN
  have hst := (u_facts hfc hkC (u_lays X.2.2.2.2.1 hin hfN) hi).1
  refine ⟨cf, fi, kf, fd, cell, hi, hst, q1, q2, q3, by rw [hsl]; exact k2_hasslot (q4 f hfN), fun H' e1 e2 e3 => ?_⟩
  rw [hsl] at e1
  have hP1 := hH.1.set ri_w_D he (e := .inr (ci, (fs.map (ri_v sa base)).set f (ri_v sa base v))) ⟨_, hc, t_OB.to (V := updV (vp_V (fs.map (ri_v sa base))) f (ri_v sa base v)) ⟨_, e1, q2, q3, t_set q4 hap hfN (ri_v sa base v)⟩ (fun k _ => vp_updV_set (by simpa using hlen) (ri_v sa base v) k)⟩ e3
  refine ⟨?_, by rw [e2, List.length_set]; exact hH.2⟩
  rw [← ri_w_set]
  show va_P D ri_cl ((ri_w sa base ka h).set j (base + j, .inr (ci, (fs.set f v).map (ri_v sa base)))) H'
  rw [List.map_set]
  exact hP1
theorem s_put (X : ri_X p s m args c cc nL Ts own D ka sa base) {ci f ix N : Nat} {C : String} {T : u_T} (hc : ri_cl[ci]? = some (C, T, N)) (hin : ∀ w ∈ u_ws C T N, w ∈ Ts) (hfN : f < N) (ty0 : Nat → FieldType) (hty : ∀ k, k < N → parseFieldDescriptor (T k).2.2.1 = some (ty0 k)) (hnm : ∀ a, a < N → ∀ b, b < N → a ≠ b → (T a).2.1 ≠ (T b).2.1) (hfin : (T f).2.2.2 = false) {ok : Value → Bool} (hok : ∀ v, ok v = true → narrow (ty0 f) (ri_v sa base v) = ri_v sa base v ∧ fits (ty0 f) (ri_v sa base v) = true) (hlink : Cond.fieldLink own ix (T f).1 (T f).2.1 (T f).2.2.1 ∈ Ts) (hd : decode cc (pf i) = .ok (.putfield ix, 3)) (hn : pf n = pf i + 3) : ri_snd (ri_W p l e R s m args below meth c D ka sa base nL Q pf) i (i_put n ci f ok) := by
  intro k hk U V L st h hf
  unfold i_put at hf
  split at hf
  · rename_i v q r
    split at hf
    · rename_i c' fs hat
      replace hf := ri_bif hf; obtain ⟨hB, hf⟩ := hf
      replace hB := ri_and hB; obtain ⟨hv, hB⟩ := hB
      replace hB := ri_and hB; obtain ⟨hq, hB⟩ := hB
      obtain ⟨hb, hl9⟩ := ri_and hB
      have hcc : c' = ci := Nat.eq_of_beq_eq_true hb
      subst hcc
      rw [ri_at_hi hq] at hat
      intro H locs ls hH hS hl
      show W p l e R s m args below meth c H locs U V Q (F0 m (pf i) ls (ri_v sa base v :: .ref (ri_ad sa base q) :: r.map (ri_v sa base)))
      rw [ri_ad_hi hq]
      have hlen : f < fs.length := Nat.le_of_ble_eq_true hl9
      obtain ⟨cf, fi, kf, fd, cell, hi, hst, hcell, hcl, hvm, hlt, hgo⟩ := ri_put_core X hc hin hfN ty0 hty hnm (v := v) hat hlen hH
      obtain ⟨-, hfc, kC, hkC, hkind⟩ := X.2.2.2.2.2.1.1 c' _ hc
      have hlay := X.2.2.2.2.1 _ (hin _ (u_in_lay hfN))
      unfold u_lay at hlay
      rw [if_neg (by rw [hfin]; decide)] at hlay
      refine W.putK X.1 X.2.1 (f := fd) ⟨X.2.2.2.1, X.2.2.2.2.1 _ hlink, ⟨_, _, _, hi⟩, hst⟩ (by rw [hcl]; exact u_store hfc hkC hkind hlay hi (hty f hfN) (hok v hv).1 (hok v hv).2) hcell hvm hlt rfl rfl hd fun H' e1 e2 e3 => ?_
      have hw := hk _ _ _ _ _ _ hf H' _ ls (hgo H' e1 e2 e3) (hS.put (k := fd.slot) e2 e3 (show base ≤ base + (q - 16) by omega)) hl
      rw [hn] at hw
      exact hw
    · exact hf.elim
  · exact hf.elim
theorem s_putN (X : ri_X p s m args c cc nL Ts own D ka sa base) {ci f ix N : Nat} {C : String} {T : u_T} (hc : ri_cl[ci]? = some (C, T, N)) (hin : ∀ w ∈ u_ws C T N, w ∈ Ts) (hfN : f < N) (ty0 : Nat → FieldType) (hty : ∀ k, k < N → parseFieldDescriptor (T k).2.2.1 = some (ty0 k)) (hnm : ∀ a, a < N → ∀ b, b < N → a ≠ b → (T a).2.1 ≠ (T b).2.1) (hfin : (T f).2.2.2 = false) {ok : Value → Bool} (hok : ∀ v, ok v = true → narrow (ty0 f) (ri_v sa base v) = ri_v sa base v ∧ fits (ty0 f) (ri_v sa base v) = true) {host : String} (hlink : Cond.fieldLinkNest own ix (T f).1 (T f).2.1 (T f).2.2.1 host ∈ ri_NW) (hd : decode cc (pf i) = .ok (.putfield ix, 3)) (hn : pf n = pf i + 3) : ri_snd (ri_W p l e R s m args below meth c D ka sa base nL Q pf) i (i_put n ci f ok) := by
  intro k hk U V L st h hf
  unfold i_put at hf
  split at hf
  · rename_i v q r
    split at hf
    · rename_i c' fs hat
      replace hf := ri_bif hf; obtain ⟨hB, hf⟩ := hf
      replace hB := ri_and hB; obtain ⟨hv, hB⟩ := hB
      replace hB := ri_and hB; obtain ⟨hq, hB⟩ := hB
      obtain ⟨hb, hl9⟩ := ri_and hB
      have hcc : c' = ci := Nat.eq_of_beq_eq_true hb
      subst hcc
      rw [ri_at_hi hq] at hat
      intro H locs ls hH hS hl
      show W p l e R s m args below meth c H locs U V Q (F0 m (pf i) ls (ri_v sa base v :: .ref (ri_ad sa base q) :: r.map (ri_v sa base)))
      rw [ri_ad_hi hq]
      have hlen : f < fs.length := Nat.le_of_ble_eq_true hl9
      obtain ⟨cf, fi, kf, fd, cell, hi, hst, hcell, hcl, hvm, hlt, hgo⟩ := ri_put_core X hc hin hfN ty0 hty hnm (v := v) hat hlen hH
      obtain ⟨-, hfc, kC, hkC, hkind⟩ := X.2.2.2.2.2.1.1 c' _ hc
      have hlay := X.2.2.2.2.1 _ (hin _ (u_in_lay hfN))
      unfold u_lay at hlay
      rw [if_neg (by rw [hfin]; decide)] at hlay
      refine va_WputK X.1 X.2.1 (f := fd) X.2.2.2.1 (va_Nw.use rfl (X.2.2.2.2.2.2.1 _ hlink)) hi hst (by rw [hcl]; exact u_store hfc hkC hkind hlay hi (hty f hfN) (hok v hv).1 (hok v hv).2) hcell hvm hlt rfl rfl hd fun H' e1 e2 e3 => ?_
      have hw := hk _ _ _ _ _ _ hf H' _ ls (hgo H' e1 e2 e3) (hS.put (k := fd.slot) e2 e3 (show base ≤ base + (q - 16) by omega)) hl
      rw [hn] at hw
      exact hw
    · exact hf.elim
  · exact hf.elim
theorem s_putF (X : ri_X p s m args c cc nL Ts own D ka sa base) {ci f ix N : Nat} {C : String} {T : u_T} (hc : ri_cl[ci]? = some (C, T, N)) (hin : ∀ w ∈ u_ws C T N, w ∈ Ts) (hfN : f < N) (ty0 : Nat → FieldType) (hty : ∀ k, k < N → parseFieldDescriptor (T k).2.2.1 = some (ty0 k)) (hnm : ∀ a, a < N → ∀ b, b < N → a ≠ b → (T a).2.1 ≠ (T b).2.1) (hfin : (T f).2.2.2 = true) {ok : Value → Bool} (hok : ∀ v, ok v = true → narrow (ty0 f) (ri_v sa base v) = ri_v sa base v ∧ fits (ty0 f) (ri_v sa base v) = true) (hlink : Cond.fieldLink own ix (T f).1 (T f).2.1 (T f).2.2.1 ∈ Ts) (hinit : meth.name = "<init>") (hdecl : (T f).1 = own) (hd : decode cc (pf i) = .ok (.putfield ix, 3)) (hn : pf n = pf i + 3) : ri_snd (ri_W p l e R s m args below meth c D ka sa base nL Q pf) i (i_put n ci f ok) := by
  intro k hk U V L st h hf
  unfold i_put at hf
  split at hf
  · rename_i v q r
    split at hf
    · rename_i c' fs hat
      replace hf := ri_bif hf; obtain ⟨hB, hf⟩ := hf
      replace hB := ri_and hB; obtain ⟨hv, hB⟩ := hB
      replace hB := ri_and hB; obtain ⟨hq, hB⟩ := hB
      obtain ⟨hb, hl9⟩ := ri_and hB
      have hcc : c' = ci := Nat.eq_of_beq_eq_true hb
      subst hcc
      rw [ri_at_hi hq] at hat
      intro H locs ls hH hS hl
      show W p l e R s m args below meth c H locs U V Q (F0 m (pf i) ls (ri_v sa base v :: .ref (ri_ad sa base q) :: r.map (ri_v sa base)))
      rw [ri_ad_hi hq]
      have hlen : f < fs.length := Nat.le_of_ble_eq_true hl9
      obtain ⟨cf, fi, kf, fd, cell, hi, hst, hcell, hcl, hvm, hlt, hgo⟩ := ri_put_core X hc hin hfN ty0 hty hnm (v := v) hat hlen hH
      obtain ⟨-, hfc, kC, hkC, hkind⟩ := X.2.2.2.2.2.1.1 c' _ hc
      have hlay := X.2.2.2.2.1 _ (hin _ (u_in_lay hfN))
      unfold u_lay at hlay
      rw [if_pos hfin] at hlay
      have hcf : m.cls = cf := by
        obtain ⟨_, _, c2, _, _, _, -, -, hf2, -, -, -, hown2, -⟩ := Cond.laysFinal_spec hlay
        have e1 : c2 = cf := by have := hi.symm.trans hf2; simp at this; exact this.1.symm
        rw [hdecl] at hown2
        rw [← e1]; exact Option.some.inj (X.2.2.2.1.symm.trans hown2)
      refine W.putFinK X.1 X.2.1 X.2.2.2.1 (X.2.2.2.2.1 _ hlink) hi hst hcf hinit (by rw [hcl]; exact u_fits hfc hkC hkind (Or.inr hlay) hi (hty f hfN) (hok v hv).1 (hok v hv).2) hcell hvm hlt rfl rfl hd fun H' e1 e2 e3 => ?_
      have hw := hk _ _ _ _ _ _ hf H' _ ls (hgo H' e1 e2 e3) (hS.put (k := fd.slot) e2 e3 (show base ≤ base + (q - 16) by omega)) hl
      rw [hn] at hw
      exact hw
    · exact hf.elim
  · exact hf.elim
theorem s_gets (X : ri_X p s m args c cc nL Ts own D ka sa base) {q ix : Nat} {t : String × String × String × Nat × (Nat → Int32)} (ht : ri_ST[q]? = some t) (hq : Nat.ble 16 q = false) (hlink : Cond.fieldLink own ix t.1 t.2.1 t.2.2.1 ∈ Ts) (hd : decode cc (pf i) = .ok (.getstatic ix, 3)) (hn : pf n = pf i + 3) : ri_snd (ri_W p l e R s m args below meth c D ka sa base nL Q pf) i (i_gets n q) := by
  intro k hk U V L st h hf H locs ls hH hS hl
  have hw := hk _ _ _ _ _ _ hf H locs ls hH hS hl
  rw [hn] at hw
  have hw : W p l e R s m args below meth c H locs U V Q (F0 m (pf i + 3) ls (.ref (ri_ad sa base q) :: st.map (ri_v sa base))) := hw
  rw [ri_ad_lo hq] at hw
  exact va_gets X.1 X.2.1 (X.2.2.2.2.2.2.2.2.1 q t ht).1 hS X.2.2.2.1 (X.2.2.2.2.1 _ hlink) (fun _ z => z) hd hw
theorem s_iald (X : ri_X p s m args c cc nL Ts own D ka sa base) (hkt : ri_kt[0]? = some .int) (hd : decode cc (pf i) = .ok (.iaload, 1)) (hn : pf n = pf i + 1) : ri_snd (ri_W p l e R s m args below meth c D ka sa base nL Q pf) i (i_ald n 0) := by
  intro k hk U V L st h hf
  unfold i_ald at hf
  split at hf
  · rename_i j q r
    split at hf
    · rename_i t N f hat
      obtain ⟨hin, hf⟩ := hf
      replace hf := ri_bif hf; obtain ⟨hb, hf⟩ := hf
      have hcc : t = 0 := Nat.eq_of_beq_eq_true hb
      subst hcc
      intro H locs ls hH hS hl
      have hw := hk _ _ _ _ _ _ hf H locs ls hH hS hl
      rw [hn] at hw
      cases hq : Nat.ble 16 q with
      | false =>
        rw [ri_at_lo hq] at hat
        obtain ⟨t0, ht0, e0⟩ := Option.map_eq_some_iff.mp hat
        cases e0
        show W p l e R s m args below meth c H locs U V Q (F0 m (pf i) ls (.int j :: .ref (ri_ad sa base q) :: r.map (ri_v sa base)))
        rw [ri_ad_lo hq]
        exact va_ti X.1 X.2.1 (X.2.2.2.2.2.2.2.2.1 q t0 ht0).2 hS hin rfl hd hw
      | true =>
        rw [ri_at_hi hq] at hat
        show W p l e R s m args below meth c H locs U V Q (F0 m (pf i) ls (.int j :: .ref (ri_ad sa base q) :: r.map (ri_v sa base)))
        rw [ri_ad_hi hq]
        exact va_iald X.1 X.2.1 X.2.2.2.2.2.1 hH.1 (q - 16) 0 (ri_w_get hat) (ri_tys_get hkt) hin hd hw
    · exact hf.elim
  · exact hf.elim
theorem s_zald (X : ri_X p s m args c cc nL Ts own D ka sa base) (hkt : ri_kt[1]? = some .boolean) (hd : decode cc (pf i) = .ok (.baload, 1)) (hn : pf n = pf i + 1) : ri_snd (ri_W p l e R s m args below meth c D ka sa base nL Q pf) i (i_ald n 1) := by
  intro k hk U V L st h hf
  unfold i_ald at hf
  split at hf
  · rename_i j q r
    split at hf
    · rename_i t N f hat
      obtain ⟨hin, hf⟩ := hf
      replace hf := ri_bif hf; obtain ⟨hb, hf⟩ := hf
      have hcc : t = 1 := Nat.eq_of_beq_eq_true hb
      subst hcc
      intro H locs ls hH hS hl
      have hw := hk _ _ _ _ _ _ hf H locs ls hH hS hl
      rw [hn] at hw
      cases hq : Nat.ble 16 q with
      | false =>
        rw [ri_at_lo hq] at hat
        obtain ⟨t0, ht0, e0⟩ := Option.map_eq_some_iff.mp hat
        cases e0
      | true =>
        rw [ri_at_hi hq] at hat
        show W p l e R s m args below meth c H locs U V Q (F0 m (pf i) ls (.int j :: .ref (ri_ad sa base q) :: r.map (ri_v sa base)))
        rw [ri_ad_hi hq]
        exact va_zald X.1 X.2.1 X.2.2.2.2.2.1 hH.1 (q - 16) 1 (ri_w_get hat) (ri_tys_get hkt) hin hd hw
    · exact hf.elim
  · exact hf.elim
theorem s_iast (X : ri_X p s m args c cc nL Ts own D ka sa base) (hkt : ri_kt[0]? = some .int) (hd : decode cc (pf i) = .ok (.iastore, 1)) (hn : pf n = pf i + 1) : ri_snd (ri_W p l e R s m args below meth c D ka sa base nL Q pf) i (i_ast n 0 (fun x => x)) := by
  intro k hk U V L st h hf
  unfold i_ast at hf
  split at hf
  · rename_i x j q r
    split at hf
    · rename_i t N f hat
      obtain ⟨hin, hf⟩ := hf
      replace hf := ri_bif hf; obtain ⟨hB, hf⟩ := hf
      obtain ⟨hq, hb⟩ := ri_and hB
      have hcc : t = 0 := Nat.eq_of_beq_eq_true hb
      subst hcc
      rw [ri_at_hi hq] at hat
      intro H locs ls hH hS hl
      show W p l e R s m args below meth c H locs U V Q (F0 m (pf i) ls (.int x :: .int j :: .ref (ri_ad sa base q) :: r.map (ri_v sa base)))
      rw [ri_ad_hi hq]
      have he := ri_w_get (sa := sa) (base := base) (ka := ka) hat
      refine W.iast X.1 X.2.1 (hH.1 (q - 16) _ he) ((X.2.2.2.2.2.1.2 0 _ (ri_tys_get hkt)).1 N (fun a => .int (f a))) (fun z => by cases z) (by show ¬ (j < 0 ∨ (arrV _ _ _).slots.size ≤ _); rw [arrV_size]; exact hin) rfl rfl hd fun H1 e1 z1 oq => ?_
      have hP1 : va_P D ri_cl ((ri_w sa base ka h).set (q - 16) (base + (q - 16), ri_c sa base ka (.inl (0, N, .inl (upd f j.toNatClampNeg ((fun x => x) x)))))) H1 := by
        refine hH.1.set ri_w_D he ?_ oq
        show H1[base + (q - 16)]? = some (vp_cell _ _)
        rw [e1]
        show some ((vp_cell (ka 0) (N, .inl f)).setSlot _ _) = some (vp_cell (ka 0) (N, .inl (upd f j.toNatClampNeg ((fun x => x) x))))
        rw [vp_cell_i, vp_cell_i, arrV_store]
        congr 2
        funext b
        by_cases hb2 : b = j.toNatClampNeg
        · subst hb2
          simp [updV, upd]
        · simp [updV, upd, hb2]
      rw [ri_w_set] at hP1
      have hw := hk _ _ _ _ _ _ hf H1 _ ls ⟨hP1, by rw [z1, List.length_set]; exact hH.2⟩ (hS.put (k := j.toNatClampNeg) z1 oq (show base ≤ base + (q - 16) by omega)) hl
      rw [hn] at hw
      exact hw
    · exact hf.elim
  · exact hf.elim
theorem s_zast (X : ri_X p s m args c cc nL Ts own D ka sa base) (hkt : ri_kt[1]? = some .boolean) (hd : decode cc (pf i) = .ok (.bastore, 1)) (hn : pf n = pf i + 1) : ri_snd (ri_W p l e R s m args below meth c D ka sa base nL Q pf) i (i_ast n 1 (fun x => vp_nar .boolean x)) := by
  intro k hk U V L st h hf
  unfold i_ast at hf
  split at hf
  · rename_i x j q r
    split at hf
    · rename_i t N f hat
      obtain ⟨hin, hf⟩ := hf
      replace hf := ri_bif hf; obtain ⟨hB, hf⟩ := hf
      obtain ⟨hq, hb⟩ := ri_and hB
      have hcc : t = 1 := Nat.eq_of_beq_eq_true hb
      subst hcc
      rw [ri_at_hi hq] at hat
      intro H locs ls hH hS hl
      show W p l e R s m args below meth c H locs U V Q (F0 m (pf i) ls (.int x :: .int j :: .ref (ri_ad sa base q) :: r.map (ri_v sa base)))
      rw [ri_ad_hi hq]
      have he := ri_w_get (sa := sa) (base := base) (ka := ka) hat
      refine W.zast X.1 X.2.1 (hH.1 (q - 16) _ he) ((X.2.2.2.2.2.1.2 1 _ (ri_tys_get hkt)).1 N (fun a => .int (f a))) (fun z => by cases z) (by show ¬ (j < 0 ∨ (arrV _ _ _).slots.size ≤ _); rw [arrV_size]; exact hin) rfl rfl hd fun H1 e1 z1 oq => ?_
      have hP1 : va_P D ri_cl ((ri_w sa base ka h).set (q - 16) (base + (q - 16), ri_c sa base ka (.inl (1, N, .inl (upd f j.toNatClampNeg ((fun x => vp_nar .boolean x) x)))))) H1 := by
        refine hH.1.set ri_w_D he ?_ oq
        show H1[base + (q - 16)]? = some (vp_cell _ _)
        rw [e1]
        show some ((vp_cell (ka 1) (N, .inl f)).setSlot _ _) = some (vp_cell (ka 1) (N, .inl (upd f j.toNatClampNeg ((fun x => vp_nar .boolean x) x))))
        rw [vp_cell_i, vp_cell_i, arrV_store]
        congr 2
        funext b
        by_cases hb2 : b = j.toNatClampNeg
        · subst hb2
          simp [updV, upd, vp_nar]
          try rfl
        · simp [updV, upd, hb2]
      rw [ri_w_set] at hP1
      have hw := hk _ _ _ _ _ _ hf H1 _ ls ⟨hP1, by rw [z1, List.length_set]; exact hH.2⟩ (hS.put (k := j.toNatClampNeg) z1 oq (show base ≤ base + (q - 16) by omega)) hl
      rw [hn] at hw
      exact hw
    · exact hf.elim
  · exact hf.elim
theorem s_alen (X : ri_X p s m args c cc nL Ts own D ka sa base) (hkt : ∀ t < ri_kt.length, ∃ ty, ri_kt[t]? = some ty) (hd : decode cc (pf i) = .ok (.arraylength, 1)) (hn : pf n = pf i + 1) : ri_snd (ri_W p l e R s m args below meth c D ka sa base nL Q pf) i (i_alen n) := by
  intro k hk U V L st h hf
  unfold i_alen at hf
  split at hf
  · rename_i q r
    split at hf
    · rename_i t N ff hat
      replace hf := ri_bif hf; obtain ⟨hb, hf⟩ := hf
      intro H locs ls hH hS hl
      have hw := hk _ _ _ _ _ _ hf H locs ls hH hS hl
      rw [hn] at hw
      cases hq : Nat.ble 16 q with
      | false =>
        rw [ri_at_lo hq] at hat
        obtain ⟨t0, ht0, e0⟩ := Option.map_eq_some_iff.mp hat
        cases e0
        show W p l e R s m args below meth c H locs U V Q (F0 m (pf i) ls (.ref (ri_ad sa base q) :: r.map (ri_v sa base)))
        rw [ri_ad_lo hq]
        exact va_tlen X.1 X.2.1 (X.2.2.2.2.2.2.2.2.1 q t0 ht0).2 hS rfl hd hw
      | true =>
        rw [ri_at_hi hq] at hat
        obtain ⟨ty, hty⟩ := hkt t (Nat.le_of_ble_eq_true hb)
        show W p l e R s m args below meth c H locs U V Q (F0 m (pf i) ls (.ref (ri_ad sa base q) :: r.map (ri_v sa base)))
        rw [ri_ad_hi hq]
        cases ff with
        | inl f => exact va_alen X.1 X.2.1 X.2.2.2.2.2.1 hH.1 (q - 16) t (ri_w_get hat) (ri_tys_get hty) rfl hd hw
        | inr g => exact va_alen X.1 X.2.1 X.2.2.2.2.2.1 hH.1 (q - 16) t (ri_w_get hat) (ri_tys_get hty) rfl hd hw
    · exact hf.elim
  · exact hf.elim
theorem s_aald (X : ri_X p s m args c cc nL Ts own D ka sa base) {kd : Nat} {ty : FieldType} (hkt : ri_kt[kd]? = some ty) (hr : ty.isReference = true) (hd : decode cc (pf i) = .ok (.aaload, 1)) (hn : pf n = pf i + 1) : ri_snd (ri_W p l e R s m args below meth c D ka sa base nL Q pf) i (i_aald n kd) := by
  intro k hk U V L st h hf
  unfold i_aald at hf
  split at hf
  · rename_i j q r
    split at hf
    · rename_i t N g hat
      obtain ⟨hin, hf⟩ := hf
      replace hf := ri_bif hf; obtain ⟨hB, hf⟩ := hf
      obtain ⟨hq, hb⟩ := ri_and hB
      have hcc : t = kd := Nat.eq_of_beq_eq_true hb
      subst hcc
      rw [ri_at_hi hq] at hat
      intro H locs ls hH hS hl
      have hw := hk _ _ _ _ _ _ hf H locs ls hH hS hl
      rw [hn] at hw
      have hw : W p l e R s m args below meth c H locs U V Q (F0 m (pf i + 1) ls (ri_v sa base (va_rf (g j.toNatClampNeg)) :: r.map (ri_v sa base))) := hw
      rw [ri_rf] at hw
      show W p l e R s m args below meth c H locs U V Q (F0 m (pf i) ls (.int j :: .ref (ri_ad sa base q) :: r.map (ri_v sa base)))
      rw [ri_ad_hi hq]
      have hlt : j.toNatClampNeg < N := Nat.not_le.mp fun z => hin (Or.inr z)
      exact W.aald (v := va_rf ((g j.toNatClampNeg).map (ri_ad sa base))) (ty := ty) X.1 X.2.1 (hH.1 (q - 16) _ (ri_w_get hat)) ((X.2.2.2.2.2.1.2 t _ (ri_tys_get hkt)).1 N (fun a => va_rf ((g a).map (ri_ad sa base)))) hr (fun z => by cases z) (by show ¬ (j < 0 ∨ (arrV _ _ _).slots.size ≤ _); rw [arrV_size]; exact hin) (by show (arrV _ _ _).slots[_]? = _; rw [arrV_read _ _ hlt]) rfl rfl hd hw
    · exact hf.elim
  · exact hf.elim
end RIT
end
section
/-! ends, calls, and a method's contract out of its list -/
def ri_Qc (D : va_G) (ka : Nat → ClassId) (sa : Nat → Nat) (base : Nat) (Po : ri_O) : Array Value → State → Outcome → State → Prop := fun _ st oc t =>
  (∃ (r : Option Value) (h' : List ri_C), Po r h' ∧ oc = .returned (r.map (ri_v sa base)) ∧ ri_H D ka sa base h' t.heap) ∧ va_F (fun q => base ≤ q) st t
def ri_Pc (D : va_G) (ka : Nat → ClassId) (sa : Nat → Nat) (base : Nat) (av : List Value) (h : List ri_C) : Array Value → State → Prop := fun v U =>
  v = (av.map (ri_v sa base)).toArray ∧ ri_env D ka sa base U ∧ ri_H D ka sa base h U.heap
/-- method y, called with these values in this heap, returns, and Po holds of its answer and of the heap behind it; it makes at most mc cells of ms slots -/
def ri_Ev (l : Launch) (y : MethodName) (ws : List Cond) (rm : Room) (mc ms : Nat) (av : List Value) (h : List ri_C) (Po : ri_O) : Prop :=
  ∀ (D : va_G) (ka : Nat → ClassId) (sa : Nat → Nat) (base : Nat), Met l y ws rm (ri_Pc D ka sa base av h) (ri_Qc D ka sa base Po) mc ms (fun q => base ≤ q)
def ri_isN (w : Cond) : Bool := match w with
  | .fieldLinkNest .. => true
  | .methodLinkNest .. => true
  | _ => false
theorem ri_nw_warm {w : Cond} {s U : State} (hw : ri_isN w = true) (hW : s.WarmedH U.vm) (h : va_Nw w s) : va_Nw w U := by
  cases w <;> first | (cases hw; done) | exact va_Nw.warmF hW h | exact va_Nw.warmM hW h
theorem ri_isN_tab {w : Cond} (hw : ri_isN w = true) : w.onTables = true := by
  cases w <;> first | (cases hw; done) | rfl
theorem ri_env_warm {D : va_G} {ka : Nat → ClassId} {sa : Nat → Nat} {base : Nat} {s U : State} (hNW : ∀ w ∈ ri_NW, ri_isN w = true) (h : ri_env D ka sa base s) (hW : s.WarmedH U.vm) {locs : List Loc} (hS : va_S (fun q => base ≤ q) s.heap U.heap locs) : ri_env D ka sa base U := by
  obtain ⟨h1, h2, h3, h4, h5⟩ := h
  refine ⟨h1.moved hW.alike, fun w hw => ri_nw_warm (hNW w hw) hW (h2 w hw), ⟨fun C hC => (h3.1 C hC).moved hW.alike, h3.2.moved hW.alike⟩, fun j t ht => ?_, Nat.le_trans h5 hS.1⟩
  obtain ⟨a, b⟩ := h4 j t ht
  exact ⟨(a.moved hW.alike).kept (fun q hq hA => hS.2.1 q hq hA), (b.moved hW.alike).kept (fun q hq hA => hS.2.1 q hq hA)⟩
theorem ri_blind {D : va_G} {ka : Nat → ClassId} {sa : Nat → Nat} {base : Nat} {av : List Value} {h : List ri_C} (hNW : ∀ w ∈ ri_NW, ri_isN w = true) : FrameBlind (ri_Pc D ka sa base av h) := by
  intro a U g mk q
  obtain ⟨q0, ⟨h1, h2, h3, h4, h5⟩, qH⟩ := q
  refine ⟨q0, ⟨h1.moved (u := U) (U := U.calling g mk a) (Vm.Alike.refl U.vm), fun w hw => va_Nw.same (ri_isN_tab (hNW w hw)) (u := U) (U := U.calling g mk a) rfl (h2 w hw), ⟨fun C hC => (h3.1 C hC).moved (u := U) (U := U.calling g mk a) (Vm.Alike.refl U.vm), h3.2.moved (u := U) (U := U.calling g mk a) (Vm.Alike.refl U.vm)⟩, fun j t ht => ?_, h5⟩, qH⟩
  obtain ⟨x, y⟩ := h4 j t ht
  exact ⟨x.moved (u := U) (U := U.calling g mk a) (Vm.Alike.refl U.vm), y.moved (u := U) (U := U.calling g mk a) (Vm.Alike.refl U.vm)⟩
section RIU
variable {p : Program} {l : Launch} {e : Env} {R : Room} {s : State} {m : MethodId} {args : Array Value} {below : List Frame} {meth : Method} {c : Code} {Q : State → Prop} {cc : ByteArray} {nL : Nat} {Ts : List Cond} {own : String} {D : va_G} {ka : Nat → ClassId} {sa : Nat → Nat} {base : Nat} {pf : Nat → Nat} {i n t : Nat}

theorem s_iret (X : ri_X p s m args c cc nL Ts own D ka sa base) {Po : ri_O} {mc ms : Nat} (hr : meth.sig.returnType = some .int) (hlocks : meth.locks = false) (hd : decode cc (pf i) = .ok (.ireturn, 1)) : ri_snd (ri_W p l e R s m args below meth c D ka sa base nL (MQ below (ri_Qc D ka sa base Po) args s mc ms (fun q => base ≤ q)) pf) i (i_ret Po mc ms) := by
  intro k hk U V L st h hf
  unfold i_ret at hf
  split at hf
  ·
    rename_i v
    replace hf := ri_bif hf; obtain ⟨hB, hf⟩ := hf
    obtain ⟨hU, hV⟩ := ri_and hB
    intro H locs ls hH hS hl
    have hf : Po _ h := hf
    refine W.widen (Nat.le_of_ble_eq_true hU) (Nat.le_of_ble_eq_true hV) ?_
    exact W.iret X.1 X.2.1 hr (fun t ht hW => ⟨⟨some (.int v), h, hf, rfl, by rw [ht]; exact hH⟩, hS.F ht⟩) hS.2.2 hd hlocks
  · exact hf.elim
theorem s_zret (X : ri_X p s m args c cc nL Ts own D ka sa base) {Po : ri_O} {mc ms : Nat} (hr : meth.sig.returnType = some .boolean) (hlocks : meth.locks = false) (hd : decode cc (pf i) = .ok (.ireturn, 1)) : ri_snd (ri_W p l e R s m args below meth c D ka sa base nL (MQ below (ri_Qc D ka sa base Po) args s mc ms (fun q => base ≤ q)) pf) i (i_zret Po mc ms) := by
  intro k hk U V L st h hf
  unfold i_zret at hf
  split at hf
  ·
    rename_i v
    replace hf := ri_bif hf; obtain ⟨hB, hf⟩ := hf
    obtain ⟨hU, hV⟩ := ri_and hB
    intro H locs ls hH hS hl
    obtain ⟨hz, hf⟩ := hf
    refine W.widen (Nat.le_of_ble_eq_true hU) (Nat.le_of_ble_eq_true hV) ?_
    exact W.zret X.1 X.2.1 hr hz (fun t ht hW => ⟨⟨some (.int v), h, hf, rfl, by rw [ht]; exact hH⟩, hS.F ht⟩) hS.2.2 hd hlocks
  · exact hf.elim
theorem s_vret (X : ri_X p s m args c cc nL Ts own D ka sa base) {Po : ri_O} {mc ms : Nat} (hr : meth.sig.returnType = none) (hlocks : meth.locks = false) (hd : decode cc (pf i) = .ok (.return_, 1)) : ri_snd (ri_W p l e R s m args below meth c D ka sa base nL (MQ below (ri_Qc D ka sa base Po) args s mc ms (fun q => base ≤ q)) pf) i (i_vret Po mc ms) := by
  intro k hk U V L st h hf
  unfold i_vret at hf
  split at hf
  ·
    replace hf := ri_bif hf; obtain ⟨hB, hf⟩ := hf
    obtain ⟨hU, hV⟩ := ri_and hB
    intro H locs ls hH hS hl
    have hf : Po _ h := hf
    refine W.widen (Nat.le_of_ble_eq_true hU) (Nat.le_of_ble_eq_true hV) ?_
    exact W.vret X.1 X.2.1 hr (fun t ht hW => ⟨⟨none, h, hf, rfl, by rw [ht]; exact hH⟩, hS.F ht⟩) hS.2.2 hd hlocks
  · exact hf.elim
theorem s_aret (X : ri_X p s m args c cc nL Ts own D ka sa base) {Po : ri_O} {mc ms : Nat} {rt : FieldType} (hr : meth.sig.returnType = some rt) (hrt : (∃ n, rt = .object n) ∨ ∃ t, rt = .array t) (hlocks : meth.locks = false) (hd : decode cc (pf i) = .ok (.areturn, 1)) : ri_snd (ri_W p l e R s m args below meth c D ka sa base nL (MQ below (ri_Qc D ka sa base Po) args s mc ms (fun q => base ≤ q)) pf) i (i_aret Po mc ms) := by
  intro k hk U V L st h hf
  unfold i_aret at hf
  split at hf
  · rename_i q
    replace hf := ri_bif hf; obtain ⟨hB, hf⟩ := hf
    obtain ⟨hU, hV⟩ := ri_and hB
    intro H locs ls hH hS hl
    have hf : Po _ h := hf
    refine W.widen (Nat.le_of_ble_eq_true hU) (Nat.le_of_ble_eq_true hV) ?_
    exact W.aret X.1 X.2.1 hr hrt (Or.inr ⟨_, rfl⟩) (fun t ht hW => ⟨⟨some (.ref q), h, hf, rfl, by rw [ht]; exact hH⟩, hS.F ht⟩) hS.2.2 hd hlocks
  · exact hf.elim
/-- behind a call -/
theorem ri_call_go {Po : ri_O} {mc ms pc U V : Nat} {ls : Array Slot} {st0 rest : List Value} {H : Heap} {locs : List Loc} {av : Array Value} {k : ri_K} {L : ri_L} (hk : ∀ j U V L st h, k j U V L st h → ri_W p l e R s m args below meth c D ka sa base nL Q pf j U V L st h) (hrun : va_Run p l e R s m args below meth c H locs U V mc ms (F0 m pc ls st0) (rest.map (ri_v sa base)) (ri_Qc D ka sa base Po av) (fun q => base ≤ q)) (hS : va_S (fun q => base ≤ q) s.heap H locs) (hl : ri_l sa base ls nL L) (hn : pf n = pc + 3) (hgo : ∀ r h', Po r h' → k n (U + mc) (V + ms) L (r.toList ++ rest) h') : W p l e R s m args below meth c H locs U V Q (F0 m pc ls st0) := by
  intro T hT X0
  obtain ⟨v, st₀, t, T', LL, h0, X', hL, e1, e2, ⟨⟨r, h', hPo, hv, hH'⟩, hz, hk'⟩, st⟩ := hrun T hT X0
  cases hv
  rw [h0] at hz hk'
  have hw := hk _ _ _ _ _ _ (hgo r h' hPo) T'.heap (locs ++ LL) ls (by rw [e1]; exact hH') ⟨Nat.le_trans hS.1 (by rw [e1]; exact hz), fun q h1 h2 => by rw [e1, hk' q (Nat.lt_of_lt_of_le h1 hS.1) h2]; exact hS.2.1 q h1 h2, fun q hq => by
      rcases List.mem_append.mp hq with h | h
      · exact hS.2.2 q h
      · exact hL q h⟩ hl
  rw [hn, List.map_append] at hw
  obtain ⟨t2, a1, b1⟩ := hw T' rfl X'
  refine ⟨t2, st t2 ?_, b1⟩
  cases r <;> exact a1
theorem ri_pre (hNW : ∀ w ∈ ri_NW, ri_isN w = true) (X : ri_X p s m args c cc nL Ts own D ka sa base) {av : List Value} {h : List ri_C} {H : Heap} {locs : List Loc} (hH : ri_H D ka sa base h H) (hS : va_S (fun q => base ≤ q) s.heap H locs) : PreS s H (ri_Pc D ka sa base av h) (av.map (ri_v sa base)) := by
  refine ⟨ri_blind hNW, fun U hU hW => ⟨rfl, ri_env_warm hNW X.2.2.2.2.2 hW (locs := locs) (by rw [hU]; exact hS), by rw [hU]; exact hH⟩⟩
theorem ri_room {st : List Value} {pc : Nat} {ls : Array Slot} {st0 : List Value} (h : (st.map Value.category).sum ≤ 8) : 2 * (F0 m pc ls st0).monitorRoom + ((st.map (ri_v sa base)).map fun v => v.category).sum ≤ 8 := by
  refine lv_room ?_
  rw [List.map_map]
  have e : ((fun v : Value => v.category) ∘ ri_v sa base) = Value.category := by funext v; exact ri_v_cat sa base v
  rw [e]
  exact h
theorem ri_split {na : Nat} {st : List Value} (f : Value → Value) : st.map f = (((st.take na).reverse).map f).reverse ++ (st.drop na).map f := by
  rw [← List.map_reverse, List.reverse_reverse, ← List.map_append, List.take_append_drop]

theorem s_callS (hNW : ∀ w ∈ ri_NW, ri_isN w = true) {rm rm2 : Room} {y : MethodName} {bytes : ByteArray} {maxL mc ms na ix : Nat} {ret : Option FieldType} {ws : List Cond} (X : ri_X p s m args c cc nL Ts own D ka sa base) (cw : CallB rm s args own ix y bytes maxL ret ws rm2 mc ms na ∧ (Cond.static y).before args s = true) (hd : decode cc (pf i) = .ok (.invokestatic ix, 3)) (hn : pf n = pf i + 3) : ri_snd (ri_W p l e rm s m args below meth c D ka sa base nL Q pf) i (i_call n na (ri_Ev l y ws rm2 mc ms) mc ms rm.cells rm.slots) := by
  intro k hk U V L st h hf
  unfold i_call at hf
  replace hf := ri_bif hf; obtain ⟨hB, hf⟩ := hf
  replace hB := ri_and hB; obtain ⟨h1, hB⟩ := hB
  replace hB := ri_and hB; obtain ⟨h2, hB⟩ := hB
  obtain ⟨h3, h4⟩ := ri_and hB
  obtain ⟨Po, hE, hgo⟩ := hf
  intro H locs ls hH hS hl
  rw [ri_split (na := na) (st := st) (ri_v sa base)]
  refine ri_call_go (n := n) (Po := Po) hk (va_runS (As := ((st.take na).reverse).map (ri_v sa base)) (rest := (st.drop na).map (ri_v sa base)) ⟨X.1, X.2.1, X.2.2.1, X.2.2.2.1, X.2.2.2.2.1⟩ (hE D ka sa base) cw (ri_pre hNW X hH hS) rfl (by have := Nat.le_of_ble_eq_true h3; simp; omega) hl.1 rfl (ri_room (Nat.le_of_ble_eq_true h4)) hd ⟨Nat.le_of_ble_eq_true h1, Nat.le_of_ble_eq_true h2⟩) hS hl hn hgo
theorem s_callSN (hNW : ∀ w ∈ ri_NW, ri_isN w = true) {rm rm2 : Room} {y : MethodName} {bytes : ByteArray} {maxL mc ms na ix : Nat} {ret : Option FieldType} {ws : List Cond} {host : String} (X : ri_X p s m args c cc nL Ts own D ka sa base) (cw : va_CN rm s args own ix y host bytes maxL ret ws rm2 mc ms na ∧ (Cond.static y).before args s = true ∧ True) (hd : decode cc (pf i) = .ok (.invokestatic ix, 3)) (hn : pf n = pf i + 3) : ri_snd (ri_W p l e rm s m args below meth c D ka sa base nL Q pf) i (i_call n na (ri_Ev l y ws rm2 mc ms) mc ms rm.cells rm.slots) := by
  intro k hk U V L st h hf
  unfold i_call at hf
  replace hf := ri_bif hf; obtain ⟨hB, hf⟩ := hf
  replace hB := ri_and hB; obtain ⟨h1, hB⟩ := hB
  replace hB := ri_and hB; obtain ⟨h2, hB⟩ := hB
  obtain ⟨h3, h4⟩ := ri_and hB
  obtain ⟨Po, hE, hgo⟩ := hf
  intro H locs ls hH hS hl
  rw [ri_split (na := na) (st := st) (ri_v sa base)]
  refine ri_call_go (n := n) (Po := Po) hk (va_runSN (As := ((st.take na).reverse).map (ri_v sa base)) (rest := (st.drop na).map (ri_v sa base)) ⟨X.1, X.2.1, X.2.2.1, X.2.2.2.1, X.2.2.2.2.1⟩ (hE D ka sa base) cw (ri_pre hNW X hH hS) rfl (by have := Nat.le_of_ble_eq_true h3; simp; omega) hl.1 rfl (ri_room (Nat.le_of_ble_eq_true h4)) hd ⟨Nat.le_of_ble_eq_true h1, Nat.le_of_ble_eq_true h2⟩) hS hl hn hgo
theorem s_callV (hNW : ∀ w ∈ ri_NW, ri_isN w = true) {rm rm2 : Room} {y : MethodName} {bytes : ByteArray} {maxL mc ms na ix ci N : Nat} {ret : Option FieldType} {ws : List Cond} {C : String} {Tt : u_T} (X : ri_X p s m args c cc nL Ts own D ka sa base) (hci : ri_cl[ci]? = some (C, Tt, N)) (cw : CallW rm s args own C ix y bytes maxL ret ws rm2 mc ms na) (hd : decode cc (pf i) = .ok (.invokevirtual ix, 3)) (hn : pf n = pf i + 3) : ri_snd (ri_W p l e rm s m args below meth c D ka sa base nL Q pf) i (i_callV n (na + 1) ci (ri_Ev l y ws rm2 mc ms) mc ms rm.cells rm.slots) := by
  intro k hk U V L st h hf
  unfold i_callV at hf
  split at hf
  · rename_i q as hspl
    split at hf
    · rename_i c' fs hat
      replace hf := ri_bif hf; obtain ⟨hB, hf⟩ := hf
      replace hB := ri_and hB; obtain ⟨hq, hB⟩ := hB
      replace hB := ri_and hB; obtain ⟨hb, hB⟩ := hB
      replace hB := ri_and hB; obtain ⟨h1, hB⟩ := hB
      replace hB := ri_and hB; obtain ⟨h2, hB⟩ := hB
      obtain ⟨h3, h4⟩ := ri_and hB
      have hcc : c' = ci := Nat.eq_of_beq_eq_true hb
      subst hcc
      obtain ⟨Po, hE, hgo⟩ := hf
      rw [ri_at_hi hq] at hat
      intro H locs ls hH hS hl
      have hstk := ri_split (na := na + 1) (st := st) (ri_v sa base)
      rw [hspl] at hstk
      have hlen : as.length = na := by
        have e1 := congrArg List.length hspl
        have e2 := Nat.le_of_ble_eq_true h3
        simp at e1
        omega
      have hstk : st.map (ri_v sa base) = (as.map (ri_v sa base)).reverse ++ .ref (base + (q - 16)) :: (st.drop (na + 1)).map (ri_v sa base) := by
        rw [hstk, ← ri_ad_hi (sa := sa) (base := base) hq]
        simp [ri_v]
      rw [hstk]
      have hargs : (Value.ref q :: as).map (ri_v sa base) = .ref (base + (q - 16)) :: as.map (ri_v sa base) := by
        rw [← ri_ad_hi (sa := sa) (base := base) hq]; rfl
      have hPre : PreS s H (ri_Pc D ka sa base (.ref q :: as) h) (.ref (base + (q - 16)) :: as.map (ri_v sa base)) := by
        have hp := ri_pre hNW X (av := .ref q :: as) hH hS
        rw [hargs] at hp
        exact hp
      have hrun := va_runV (b := base + (q - 16)) (As := as.map (ri_v sa base)) (rest := (st.drop (na + 1)).map (ri_v sa base)) (g := F0 m (pf i) ls ((as.map (ri_v sa base)).reverse ++ .ref (base + (q - 16)) :: (st.drop (na + 1)).map (ri_v sa base))) ⟨X.1, X.2.1, X.2.2.1, X.2.2.2.1, X.2.2.2.2.1⟩ (hE D ka sa base) cw (⟨ri_blind hNW, va_recv X.2.2.2.2.2.1 hH.1 (ci := c') (q0 := q - 16) hci (ri_w_get hat), hPre.2⟩ : PreV s H C (base + (q - 16)) (ri_Pc D ka sa base (.ref q :: as) h) (as.map (ri_v sa base))) rfl (by simpa using hlen) hl.1 rfl (ri_room (Nat.le_of_ble_eq_true h4)) hd ⟨Nat.le_of_ble_eq_true h1, Nat.le_of_ble_eq_true h2⟩ (p := p) (l := l) (e := e) (below := below) (meth := meth) (locs := locs) (cells := U) (slots := V) (H := H)
      exact ri_call_go (n := n) (Po := Po) hk hrun hS hl hn hgo
    · exact hf.elim
  · exact hf.elim
theorem s_callVN (hNW : ∀ w ∈ ri_NW, ri_isN w = true) {rm rm2 : Room} {y : MethodName} {bytes : ByteArray} {maxL mc ms na ix ci N : Nat} {ret : Option FieldType} {ws : List Cond} {C : String} {Tt : u_T} {host : String} (X : ri_X p s m args c cc nL Ts own D ka sa base) (hci : ri_cl[ci]? = some (C, Tt, N)) (cw : va_CN rm s args own ix y host bytes maxL ret ws rm2 mc ms na ∧ (Cond.instanceMethod y).before args s = true ∧ (Cond.selects C y y).before args s = true) (hd : decode cc (pf i) = .ok (.invokevirtual ix, 3)) (hn : pf n = pf i + 3) : ri_snd (ri_W p l e rm s m args below meth c D ka sa base nL Q pf) i (i_callV n (na + 1) ci (ri_Ev l y ws rm2 mc ms) mc ms rm.cells rm.slots) := by
  intro k hk U V L st h hf
  unfold i_callV at hf
  split at hf
  · rename_i q as hspl
    split at hf
    · rename_i c' fs hat
      replace hf := ri_bif hf; obtain ⟨hB, hf⟩ := hf
      replace hB := ri_and hB; obtain ⟨hq, hB⟩ := hB
      replace hB := ri_and hB; obtain ⟨hb, hB⟩ := hB
      replace hB := ri_and hB; obtain ⟨h1, hB⟩ := hB
      replace hB := ri_and hB; obtain ⟨h2, hB⟩ := hB
      obtain ⟨h3, h4⟩ := ri_and hB
      have hcc : c' = ci := Nat.eq_of_beq_eq_true hb
      subst hcc
      obtain ⟨Po, hE, hgo⟩ := hf
      rw [ri_at_hi hq] at hat
      intro H locs ls hH hS hl
      have hstk := ri_split (na := na + 1) (st := st) (ri_v sa base)
      rw [hspl] at hstk
      have hlen : as.length = na := by
        have e1 := congrArg List.length hspl
        have e2 := Nat.le_of_ble_eq_true h3
        simp at e1
        omega
      have hstk : st.map (ri_v sa base) = (as.map (ri_v sa base)).reverse ++ .ref (base + (q - 16)) :: (st.drop (na + 1)).map (ri_v sa base) := by
        rw [hstk, ← ri_ad_hi (sa := sa) (base := base) hq]
        simp [ri_v]
      rw [hstk]
      have hargs : (Value.ref q :: as).map (ri_v sa base) = .ref (base + (q - 16)) :: as.map (ri_v sa base) := by
        rw [← ri_ad_hi (sa := sa) (base := base) hq]; rfl
      have hPre : PreS s H (ri_Pc D ka sa base (.ref q :: as) h) (.ref (base + (q - 16)) :: as.map (ri_v sa base)) := by
        have hp := ri_pre hNW X (av := .ref q :: as) hH hS
        rw [hargs] at hp
        exact hp
      have hrun := va_runVN (b := base + (q - 16)) (As := as.map (ri_v sa base)) (rest := (st.drop (na + 1)).map (ri_v sa base)) (g := F0 m (pf i) ls ((as.map (ri_v sa base)).reverse ++ .ref (base + (q - 16)) :: (st.drop (na + 1)).map (ri_v sa base))) ⟨X.1, X.2.1, X.2.2.1, X.2.2.2.1, X.2.2.2.2.1⟩ (hE D ka sa base) cw (⟨ri_blind hNW, va_recv X.2.2.2.2.2.1 hH.1 (ci := c') (q0 := q - 16) hci (ri_w_get hat), hPre.2⟩ : PreV s H C (base + (q - 16)) (ri_Pc D ka sa base (.ref q :: as) h) (as.map (ri_v sa base))) rfl (by simpa using hlen) hl.1 rfl (ri_room (Nat.le_of_ble_eq_true h4)) hd ⟨Nat.le_of_ble_eq_true h1, Nat.le_of_ble_eq_true h2⟩ (p := p) (l := l) (e := e) (below := below) (meth := meth) (locs := locs) (cells := U) (slots := V) (H := H)
      exact ri_call_go (n := n) (Po := Po) hk hrun hS hl hn hgo
    · exact hf.elim
  · exact hf.elim
theorem s_callI (hNW : ∀ w ∈ ri_NW, ri_isN w = true) {rm rm2 : Room} {y : MethodName} {bytes : ByteArray} {maxL mc ms na ix ci N : Nat} {ws : List Cond} {C : String} {Tt : u_T} (X : ri_X p s m args c cc nL Ts own D ka sa base) (hci : ri_cl[ci]? = some (C, Tt, N)) (cw : CallB rm s args own ix y bytes maxL none ws rm2 mc ms na ∧ y.name = "<init>" ∧ (Cond.instanceMethod y).before args s = true) (hd : decode cc (pf i) = .ok (.invokespecial ix, 3)) (hn : pf n = pf i + 3) : ri_snd (ri_W p l e rm s m args below meth c D ka sa base nL Q pf) i (i_callV n (na + 1) ci (ri_Ev l y ws rm2 mc ms) mc ms rm.cells rm.slots) := by
  intro k hk U V L st h hf
  unfold i_callV at hf
  split at hf
  · rename_i q as hspl
    split at hf
    · rename_i c' fs hat
      replace hf := ri_bif hf; obtain ⟨hB, hf⟩ := hf
      replace hB := ri_and hB; obtain ⟨hq, hB⟩ := hB
      replace hB := ri_and hB; obtain ⟨hb, hB⟩ := hB
      replace hB := ri_and hB; obtain ⟨h1, hB⟩ := hB
      replace hB := ri_and hB; obtain ⟨h2, hB⟩ := hB
      obtain ⟨h3, h4⟩ := ri_and hB
      have hcc : c' = ci := Nat.eq_of_beq_eq_true hb
      subst hcc
      obtain ⟨Po, hE, hgo⟩ := hf
      rw [ri_at_hi hq] at hat
      intro H locs ls hH hS hl
      have hstk := ri_split (na := na + 1) (st := st) (ri_v sa base)
      rw [hspl] at hstk
      have hlen : as.length = na := by
        have e1 := congrArg List.length hspl
        have e2 := Nat.le_of_ble_eq_true h3
        simp at e1
        omega
      have hstk : st.map (ri_v sa base) = (as.map (ri_v sa base)).reverse ++ .ref (base + (q - 16)) :: (st.drop (na + 1)).map (ri_v sa base) := by
        rw [hstk, ← ri_ad_hi (sa := sa) (base := base) hq]
        simp [ri_v]
      rw [hstk]
      have hargs : (Value.ref q :: as).map (ri_v sa base) = .ref (base + (q - 16)) :: as.map (ri_v sa base) := by
        rw [← ri_ad_hi (sa := sa) (base := base) hq]; rfl
      have hPre : PreS s H (ri_Pc D ka sa base (.ref q :: as) h) (.ref (base + (q - 16)) :: as.map (ri_v sa base)) := by
        have hp := ri_pre hNW X (av := .ref q :: as) hH hS
        rw [hargs] at hp
        exact hp
      have hrun := va_runI (b := base + (q - 16)) (As := as.map (ri_v sa base)) (rest := (st.drop (na + 1)).map (ri_v sa base)) (g := F0 m (pf i) ls ((as.map (ri_v sa base)).reverse ++ .ref (base + (q - 16)) :: (st.drop (na + 1)).map (ri_v sa base))) ⟨X.1, X.2.1, X.2.2.1, X.2.2.2.1, X.2.2.2.2.1⟩ (hE D ka sa base) cw hPre rfl (by simpa using hlen) hl.1 rfl (ri_room (Nat.le_of_ble_eq_true h4)) hd ⟨Nat.le_of_ble_eq_true h1, Nat.le_of_ble_eq_true h2⟩ (p := p) (l := l) (e := e) (below := below) (meth := meth) (locs := locs) (cells := U) (slots := V) (H := H)
      exact ri_call_go (n := n) (Po := Po) hk hrun hS hl hn hgo
    · exact hf.elim
  · exact hf.elim
theorem s_callIN (hNW : ∀ w ∈ ri_NW, ri_isN w = true) {rm rm2 : Room} {y : MethodName} {bytes : ByteArray} {maxL mc ms na ix ci N : Nat} {ws : List Cond} {C : String} {Tt : u_T} {host : String} (X : ri_X p s m args c cc nL Ts own D ka sa base) (hci : ri_cl[ci]? = some (C, Tt, N)) (cw : va_CN rm s args own ix y host bytes maxL none ws rm2 mc ms na ∧ y.name = "<init>" ∧ (Cond.instanceMethod y).before args s = true) (hd : decode cc (pf i) = .ok (.invokespecial ix, 3)) (hn : pf n = pf i + 3) : ri_snd (ri_W p l e rm s m args below meth c D ka sa base nL Q pf) i (i_callV n (na + 1) ci (ri_Ev l y ws rm2 mc ms) mc ms rm.cells rm.slots) := by
  intro k hk U V L st h hf
  unfold i_callV at hf
  split at hf
  · rename_i q as hspl
    split at hf
    · rename_i c' fs hat
      replace hf := ri_bif hf; obtain ⟨hB, hf⟩ := hf
      replace hB := ri_and hB; obtain ⟨hq, hB⟩ := hB
      replace hB := ri_and hB; obtain ⟨hb, hB⟩ := hB
      replace hB := ri_and hB; obtain ⟨h1, hB⟩ := hB
      replace hB := ri_and hB; obtain ⟨h2, hB⟩ := hB
      obtain ⟨h3, h4⟩ := ri_and hB
      have hcc : c' = ci := Nat.eq_of_beq_eq_true hb
      subst hcc
      obtain ⟨Po, hE, hgo⟩ := hf
      rw [ri_at_hi hq] at hat
      intro H locs ls hH hS hl
      have hstk := ri_split (na := na + 1) (st := st) (ri_v sa base)
      rw [hspl] at hstk
      have hlen : as.length = na := by
        have e1 := congrArg List.length hspl
        have e2 := Nat.le_of_ble_eq_true h3
        simp at e1
        omega
      have hstk : st.map (ri_v sa base) = (as.map (ri_v sa base)).reverse ++ .ref (base + (q - 16)) :: (st.drop (na + 1)).map (ri_v sa base) := by
        rw [hstk, ← ri_ad_hi (sa := sa) (base := base) hq]
        simp [ri_v]
      rw [hstk]
      have hargs : (Value.ref q :: as).map (ri_v sa base) = .ref (base + (q - 16)) :: as.map (ri_v sa base) := by
        rw [← ri_ad_hi (sa := sa) (base := base) hq]; rfl
      have hPre : PreS s H (ri_Pc D ka sa base (.ref q :: as) h) (.ref (base + (q - 16)) :: as.map (ri_v sa base)) := by
        have hp := ri_pre hNW X (av := .ref q :: as) hH hS
        rw [hargs] at hp
        exact hp
      have hrun := va_runIN (b := base + (q - 16)) (As := as.map (ri_v sa base)) (rest := (st.drop (na + 1)).map (ri_v sa base)) (g := F0 m (pf i) ls ((as.map (ri_v sa base)).reverse ++ .ref (base + (q - 16)) :: (st.drop (na + 1)).map (ri_v sa base))) ⟨X.1, X.2.1, X.2.2.1, X.2.2.2.1, X.2.2.2.2.1⟩ (hE D ka sa base) cw hPre rfl (by simpa using hlen) hl.1 rfl (ri_room (Nat.le_of_ble_eq_true h4)) hd ⟨Nat.le_of_ble_eq_true h1, Nat.le_of_ble_eq_true h2⟩ (p := p) (l := l) (e := e) (below := below) (meth := meth) (locs := locs) (cells := U) (slots := V) (H := H)
      exact ri_call_go (n := n) (Po := Po) hk hrun hS hl hn hgo
    · exact hf.elim
  · exact hf.elim
end RIU
theorem ri_args_in {f : Value → Value} (hf : ∀ v, (f v).category = v.category) : ∀ (av : List Value) (o j : Nat) (v : Value), av.all ri_cat1 = true → av[j]? = some v → (o + j, f v) ∈ lv_args o (av.map f)
  | [], _, _, _, _, h => by simp at h
  | a :: r, o, j, v, hc, h => by
    have hc2 := ri_and (a := ri_cat1 a) (b := r.all ri_cat1) hc
    have ha : ¬ (f a).category = 2 := by rw [hf, ri_cat1_ok hc2.1]; decide
    show _ ∈ (o, f a) :: lv_args (if (f a).category = 2 then o + 2 else o + 1) (r.map f)
    rw [if_neg ha]
    cases j with
    | zero => simp at h; subst h; exact List.mem_cons_self
    | succ j =>
      have h2 : r[j]? = some v := by simpa using h
      have := ri_args_in hf r (o + 1) j v hc2.2 h2
      rw [show o + (j + 1) = o + 1 + j by omega]
      exact List.mem_cons_of_mem _ this
theorem ri_sl_len {f : Value → Value} (hf : ∀ v, (f v).category = v.category) : ∀ (av : List Value), av.all ri_cat1 = true → (lg_sl (av.map f)).length = av.length
  | [], _ => rfl
  | a :: r, hc => by
    have hc2 := ri_and (a := ri_cat1 a) (b := r.all ri_cat1) hc
    have ha : ¬ (f a).category = 2 := by rw [hf, ri_cat1_ok hc2.1]; decide
    have ih := ri_sl_len hf r hc2.2
    simp only [lg_sl, List.map_cons, List.flatMap_cons, if_neg ha] at ih ⊢
    simp [ih]
theorem ri_ev {l : Launch} {y : MethodName} {ws ws' : List Cond} {rm : Room} {mc ms maxL : Nat} {cc : ByteArray} {ret : Option FieldType} {av : List Value} {h : List ri_C} {Po : ri_O} (tab : List ri_S) {pf : Nat → Nat} (hy : plainName y.cls = true) (hw : ws = Cond.code y cc maxL ret :: ws') (hav : av.all ri_cat1 = true) (hlen : av.length ≤ maxL) (h0 : pf 0 = 0)
    (hclo : ∀ (p : Program) (e : Env) (s : State) (m : MethodId) (args : Array Value) (below : List Frame) (meth : Method) (c : Code) (D : va_G) (ka : Nat → ClassId) (sa : Nat → Nat) (base : Nat), ri_X p s m args c cc maxL ws y.cls D ka sa base → meth.sig.returnType = ret → meth.locks = false → meth.name = y.name → ri_clo (ri_W p l e rm s m args below meth c D ka sa base maxL (MQ below (ri_Qc D ka sa base Po) args s mc ms (fun q => base ≤ q)) pf) tab)
    (hgo : ∀ J : ri_K, ri_clo J tab → J 0 0 0 (av.map some ++ List.replicate (maxL - av.length) none) [] h) : ri_Ev l y ws rm mc ms av h Po := by
  intro D ka sa base
  refine Met.ofW (cc := cc) (maxL := maxL) (ret := ret) hy hw ?_
  intro p e s m args below meth c s₁ B hml hv
  obtain ⟨rfl, henv, hH⟩ := hv
  have hts := atoms_spec (ws := ws) B.pre
  have X : ri_X p s m _ c cc maxL ws y.cls D ka sa base := ⟨B.exec, B.bytes, hml, findClass_of_methodNamed B.named, hts, henv⟩
  have hJ := hclo p e s m _ below meth c D ka sa base X B.returns B.notSynchronized (name_of_methodNamed B.named B.method).1
  have hl := lv_entry (av.map (ri_v sa base)) (n := maxL) (by rw [ri_sl_len (ri_v_cat sa base) av hav]; exact hlen)
  rw [lg_entry_eq]
  have hll : ri_l sa base (lg_sl (av.map (ri_v sa base)) ++ List.replicate (maxL - (lg_sl (av.map (ri_v sa base))).length) Slot.unset).toArray maxL (av.map some ++ List.replicate (maxL - av.length) none) := by
    refine ⟨hl.1, hl.2.1, fun j v hj => ?_⟩
    by_cases hjl : j < av.length
    · rw [List.getElem?_append_left (by simpa using hjl), List.getElem?_map] at hj
      cases hav2 : av[j]? with
      | none => rw [hav2] at hj; cases hj
      | some w =>
        rw [hav2] at hj
        cases hj
        have h1 := ri_args_in (ri_v_cat sa base) av 0 j v hav hav2
        rw [Nat.zero_add] at h1
        exact ⟨hl.2.2 _ h1, ri_cat1_ok (List.all_eq_true.mp hav v (List.mem_of_getElem? hav2))⟩
    · rw [List.getElem?_append_right (by simpa using Nat.le_of_not_lt hjl)] at hj
      obtain ⟨_, h2⟩ := List.getElem?_eq_some_iff.mp hj
      simp at h2
  have hg : ri_W p l e rm s m _ below meth c D ka sa base maxL _ pf 0 0 0 _ [] h := hgo _ hJ
  have hg := hg s.heap [] _ hH va_S.rf hll
  rw [h0] at hg
  exact hg
end
section
/-! new cells, Object's constructor, Math, switches -/
def i_nw (n ci N : Nat) (fs : List Value) (RC RS : Nat) : ri_S := fun k U V L st h =>
  bif Nat.ble (U + 1) RC && Nat.ble (V + N) RS then k n (U + 1) (V + N) L (.ref (16 + h.length) :: st) (h ++ [.inr (ci, fs)]) else False
def i_nwa (n kd : Nat) (RC RS : Nat) : ri_S := fun k U V L st h => match st with
  | .int x :: r => ¬ x < 0 ∧ bif Nat.ble (x.toNatClampNeg * 4) 536870912 && (Nat.ble (U + 1) RC && Nat.ble (V + x.toNatClampNeg) RS) then k n (U + 1) (V + x.toNatClampNeg) L (.ref (16 + h.length) :: r) (h ++ [.inl (kd, x.toNatClampNeg, .inl (fun _ => 0))]) else False
  | _ => False
def i_nwq (n kd : Nat) (RC RS : Nat) : ri_S := fun k U V L st h => match st with
  | .int x :: r => ¬ x < 0 ∧ bif Nat.ble (x.toNatClampNeg * 4) 536870912 && (Nat.ble (U + 1) RC && Nat.ble (V + x.toNatClampNeg) RS) then k n (U + 1) (V + x.toNatClampNeg) L (.ref (16 + h.length) :: r) (h ++ [.inl (kd, x.toNatClampNeg, .inr (fun _ => none))]) else False
  | _ => False
def i_aast (n kd ci : Nat) : ri_S := fun k U V L st h => match st with
  | .ref v :: .int j :: .ref q :: r => match ri_at h q with
    | some (.inl (t, N, .inr g)) => vp_in j N ∧ (match ri_at h v with
      | some (.inr (c', _)) => bif Nat.ble 16 q && (Nat.ble 16 v && (Nat.beq t kd && Nat.beq c' ci)) then k n U V L r (h.set (q - 16) (.inl (t, N, .inr (va_up g j.toNatClampNeg (some v))))) else False
      | _ => False)
    | _ => False
  | _ => False
def i_oi (n RF RL : Nat) : ri_S := fun k U V L st h => match st with
  | .ref _ :: r => bif Nat.ble 1 RF && Nat.ble ((r.map Value.category).sum + 12) RL then k n U V L r h else False
  | _ => False
def i_m2 (n : Nat) (f : Int32 → Int32 → Int32) (RF RL RC RS : Nat) : ri_S := fun k U V L st h => match st with
  | .int y :: .int x :: r => bif Nat.ble 1 RF && (Nat.ble ((r.map Value.category).sum + 13) RL && (Nat.ble U RC && Nat.ble V RS)) then k n U V L (.int (f x y) :: r) h else False
  | _ => False
def i_m1 (n : Nat) (f : Int32 → Int32) (RF RL RC RS : Nat) : ri_S := fun k U V L st h => match st with
  | .int x :: r => bif Nat.ble 1 RF && (Nat.ble ((r.map Value.category).sum + 13) RL && (Nat.ble U RC && Nat.ble V RS)) then k n U V L (.int (f x) :: r) h else False
  | _ => False
theorem ri_ad_new (sa : Nat → Nat) (base n : Nat) : ri_ad sa base (16 + n) = base + n := by
  rw [ri_ad_hi (Nat.ble_eq_true_of_le (Nat.le_add_right 16 n)), Nat.add_sub_cancel_left]
theorem ri_cats {sa : Nat → Nat} {base : Nat} (r : List Value) : ((r.map (ri_v sa base)).map fun v => v.category).sum = (r.map Value.category).sum := by
  rw [List.map_map]
  have e : ((fun v : Value => v.category) ∘ ri_v sa base) = Value.category := by funext v; exact ri_v_cat sa base v
  rw [e]
section RIV
variable {p : Program} {l : Launch} {e : Env} {R : Room} {s : State} {m : MethodId} {args : Array Value} {below : List Frame} {meth : Method} {c : Code} {Q : State → Prop} {cc : ByteArray} {nL : Nat} {Ts : List Cond} {own : String} {D : va_G} {ka : Nat → ClassId} {sa : Nat → Nat} {base : Nat} {pf : Nat → Nat} {i n t : Nat}
/-- one cell more, at the heap's end -/
theorem ri_grow {h : List ri_C} {H H1 : Heap} {ec : ri_C} (hH : ri_H D ka sa base h H) (hat : va_at D ri_cl (base + h.length, ri_c sa base ka ec) H1) (z1 : H1.size = base + h.length + 1) (o1 : ∀ q, q < base + h.length → H1[q]? = H[q]?) : ri_H D ka sa base (h ++ [ec]) H1 := by
  refine ⟨?_, by rw [z1, List.length_append]; rfl⟩
  rw [ri_w_app]
  refine (hH.1.kept (fun k x hx => o1 x.1 (by have := (hH.1 k x hx).lt; rw [hH.2] at this; exact this))).app (fun k x hx => ?_)
  have hz : k < 1 := (List.getElem?_eq_some_iff.mp hx).1
  rw [show k = 0 by omega] at hx
  cases hx
  exact hat
theorem ri_S_grow {H H1 : Heap} {locs : List Loc} {z : Nat} (hS : va_S (fun q => base ≤ q) s.heap H locs) (hz : H.size = z) (z1 : H1.size = z + 1) (o1 : ∀ q, q < z → H1[q]? = H[q]?) : va_S (fun q => base ≤ q) s.heap H1 locs :=
  ⟨Nat.le_trans hS.1 (by omega), fun q h1 h2 => (o1 q (by have := hS.1; omega)).trans (hS.2.1 q h1 h2), hS.2.2⟩

theorem s_new (X : ri_X p s m args c cc nL Ts own D ka sa base) {ci N ix : Nat} {C : String} {T : u_T} {fs : List Value} (hc : ri_cl[ci]? = some (C, T, N)) (hin : ∀ w ∈ u_ws C T N, w ∈ Ts) (ty : Nat → FieldType) (hty : ∀ k, k < N → parseFieldDescriptor (T k).2.2.1 = some (ty k)) (hfs : ∀ j, j < N → defaultValue (ty j) = vp_V fs j) (hfix : fs.map (ri_v sa base) = fs) (hcl : Cond.classLink own ix C ∈ Ts) (hinst : Cond.instantiable C N ∈ Ts) (hini : Cond.initialized C ∈ Ts) (hd : decode cc (pf i) = .ok (.new ix, 3)) (hn : pf n = pf i + 3) : ri_snd (ri_W p l e R s m args below meth c D ka sa base nL Q pf) i (i_nw n ci N fs R.cells R.slots) := by
  intro k hk U V L st h hf
  unfold i_nw at hf
  replace hf := ri_bif hf; obtain ⟨hB, hf⟩ := hf
  obtain ⟨h1, h2⟩ := ri_and hB
  intro H locs ls hH hS hl
  have hKn := X.2.2.2.2.2.1.1 ci _ hc
  refine W.newcK X.1 X.2.1 X.2.2.2.1 (X.2.2.2.2.1 _ hcl) (X.2.2.2.2.1 _ hinst) (X.2.2.2.2.1 _ hini) rfl hd (Nat.le_of_ble_eq_true h1) (Nat.le_of_ble_eq_true h2) hKn.2.1 hH.2 fun H1 kC hkC e1 z1 o1 => ?_
  have hat : va_at D ri_cl (base + h.length, ri_c sa base ka (.inr (ci, fs))) H1 := by
    show ∃ r : vw_C, ri_cl[ci]? = some r ∧ t_OB (base + h.length) (D.1 ci) r.2.2 (D.2 ci) H1 (vp_V (fs.map (ri_v sa base)))
    rw [hfix]
    exact ⟨_, hc, (u_born ty X.2.2.2.2.1 hin hKn hkC e1 hty).to hfs⟩
  have hw := hk _ _ _ _ _ _ hf H1 locs ls (ri_grow hH hat z1 o1) (ri_S_grow hS hH.2 z1 o1) hl
  rw [hn] at hw
  have hw : W p l e R s m args below meth c H1 locs (U + 1) (V + N) Q (F0 m (pf i + 3) ls (.ref (ri_ad sa base (16 + h.length)) :: st.map (ri_v sa base))) := hw
  rw [ri_ad_new] at hw
  exact hw
theorem s_newi (X : ri_X p s m args c cc nL Ts own D ka sa base) (hkt : ri_kt[0]? = some .int) (harr : Cond.arrayClass .int ∈ Ts) (hd : decode cc (pf i) = .ok (.newarray .int, 2)) (hn : pf n = pf i + 2) : ri_snd (ri_W p l e R s m args below meth c D ka sa base nL Q pf) i (i_nwa n 0 R.cells R.slots) := by
  intro k hk U V L st h hf
  unfold i_nwa at hf
  split at hf
  · rename_i x r
    obtain ⟨hx, hf⟩ := hf
    replace hf := ri_bif hf; obtain ⟨hB, hf⟩ := hf
    replace hB := ri_and hB; obtain ⟨h0, hB⟩ := hB
    obtain ⟨h1, h2⟩ := ri_and hB
    intro H locs ls hH hS hl
    have h0' := Nat.le_of_ble_eq_true h0
    refine va_newaK (atype := .int) X.1 X.2.1 (X.2.2.2.2.1 _ harr) rfl hd rfl hx rfl (Nat.le_trans (Nat.mul_le_mul_left _ (by decide)) h0') (Nat.le_of_ble_eq_true h1) (Nat.le_of_ble_eq_true h2) hH.2 fun H1 cA e1 z1 o1 hAr hNm => ?_
    have hcA : cA = ka 0 := Option.some.inj (hNm.symm.trans (X.2.2.2.2.2.1.2 0 _ (ri_tys_get hkt)).2)
    subst hcA
    have hat : va_at D ri_cl (base + h.length, ri_c sa base ka (.inl (0, x.toNatClampNeg, .inl (fun _ => 0)))) H1 := by
      show H1[base + h.length]? = some (vp_cell (ka 0) (x.toNatClampNeg, .inl (fun _ => 0)))
      rw [vp_cell_i]
      exact e1
    have hw := hk _ _ _ _ _ _ hf H1 locs ls (ri_grow hH hat z1 o1) (ri_S_grow hS hH.2 z1 o1) hl
    rw [hn] at hw
    have hw : W p l e R s m args below meth c H1 locs (U + 1) (V + x.toNatClampNeg) Q (F0 m (pf i + 2) ls (.ref (ri_ad sa base (16 + h.length)) :: r.map (ri_v sa base))) := hw
    rw [ri_ad_new] at hw
    exact hw
  · exact hf.elim
theorem s_newz (X : ri_X p s m args c cc nL Ts own D ka sa base) (hkt : ri_kt[1]? = some .boolean) (harr : Cond.arrayClass .boolean ∈ Ts) (hd : decode cc (pf i) = .ok (.newarray .boolean, 2)) (hn : pf n = pf i + 2) : ri_snd (ri_W p l e R s m args below meth c D ka sa base nL Q pf) i (i_nwa n 1 R.cells R.slots) := by
  intro k hk U V L st h hf
  unfold i_nwa at hf
  split at hf
  · rename_i x r
    obtain ⟨hx, hf⟩ := hf
    replace hf := ri_bif hf; obtain ⟨hB, hf⟩ := hf
    replace hB := ri_and hB; obtain ⟨h0, hB⟩ := hB
    obtain ⟨h1, h2⟩ := ri_and hB
    intro H locs ls hH hS hl
    have h0' := Nat.le_of_ble_eq_true h0
    refine va_newaK (atype := .boolean) X.1 X.2.1 (X.2.2.2.2.1 _ harr) rfl hd rfl hx rfl (Nat.le_trans (Nat.mul_le_mul_left _ (by decide)) h0') (Nat.le_of_ble_eq_true h1) (Nat.le_of_ble_eq_true h2) hH.2 fun H1 cA e1 z1 o1 hAr hNm => ?_
    have hcA : cA = ka 1 := Option.some.inj (hNm.symm.trans (X.2.2.2.2.2.1.2 1 _ (ri_tys_get hkt)).2)
    subst hcA
    have hat : va_at D ri_cl (base + h.length, ri_c sa base ka (.inl (1, x.toNatClampNeg, .inl (fun _ => 0)))) H1 := by
      show H1[base + h.length]? = some (vp_cell (ka 1) (x.toNatClampNeg, .inl (fun _ => 0)))
      rw [vp_cell_i]
      exact e1
    have hw := hk _ _ _ _ _ _ hf H1 locs ls (ri_grow hH hat z1 o1) (ri_S_grow hS hH.2 z1 o1) hl
    rw [hn] at hw
    have hw : W p l e R s m args below meth c H1 locs (U + 1) (V + x.toNatClampNeg) Q (F0 m (pf i + 2) ls (.ref (ri_ad sa base (16 + h.length)) :: r.map (ri_v sa base))) := hw
    rw [ri_ad_new] at hw
    exact hw
  · exact hf.elim
theorem s_anew (X : ri_X p s m args c cc nL Ts own D ka sa base) {kd ix : Nat} {C : String} (hkt : ri_kt[kd]? = some (.object C)) (hao : C ∈ ri_AO) (hcl : Cond.classLink own ix C ∈ Ts) (hd : decode cc (pf i) = .ok (.anewarray ix, 3)) (hn : pf n = pf i + 3) : ri_snd (ri_W p l e R s m args below meth c D ka sa base nL Q pf) i (i_nwq n kd R.cells R.slots) := by
  intro k hk U V L st h hf
  unfold i_nwq at hf
  split at hf
  · rename_i x r
    obtain ⟨hx, hf⟩ := hf
    replace hf := ri_bif hf; obtain ⟨hB, hf⟩ := hf
    replace hB := ri_and hB; obtain ⟨h0, hB⟩ := hB
    obtain ⟨h1, h2⟩ := ri_and hB
    intro H locs ls hH hS hl
    refine W.anew X.1 X.2.1 X.2.2.2.1 (X.2.2.2.2.1 _ hcl) (va_AO.use (X.2.2.2.2.2.2.2.1.1 C hao)) rfl hd rfl hx (Nat.le_of_ble_eq_true h0) (Nat.le_of_ble_eq_true h1) (Nat.le_of_ble_eq_true h2) fun cA kA comp f1 f2 f3 f4 => ?_
    generalize hH1 : H.push ({ cls := cA, slots := Array.replicate x.toNatClampNeg .null, vm := .none } : Cell) = H1
    have z1 : H1.size = base + h.length + 1 := by rw [← hH1, Array.size_push, hH.2]
    have e1 : H1[base + h.length]? = some (arrV cA x.toNatClampNeg (fun _ => .null)) := by rw [← hH1, ← hH.2, Array.getElem?_push_size, ← arrV_new]
    have o1 : ∀ q : Nat, q < base + h.length → H1[q]? = H[q]? := fun q hq => by rw [← hH1, Array.getElem?_push, if_neg (by rw [hH.2]; exact Nat.ne_of_lt hq)]
    obtain ⟨kA2, comp2, g1, g2, g3, g4⟩ := (X.2.2.2.2.2.1.2 kd _ (ri_tys_get hkt)).2
    have hcA : cA = ka kd := Option.some.inj (f1.symm.trans g4)
    subst hcA
    have hat : va_at D ri_cl (base + h.length, ri_c sa base ka (.inl (kd, x.toNatClampNeg, .inr (fun _ => none)))) H1 := by
      show H1[base + h.length]? = some (vp_cell (ka kd) (x.toNatClampNeg, .inr (.inr (.inr (.inr (fun _ => Option.map (ri_ad sa base) none))))))
      rw [vp_cell_q]
      exact e1
    have hw := hk _ _ _ _ _ _ hf H1 locs ls (ri_grow hH hat z1 o1) (ri_S_grow hS hH.2 z1 o1) hl
    rw [hn] at hw
    have hw : W p l e R s m args below meth c H1 locs (U + 1) (V + x.toNatClampNeg) Q (F0 m (pf i + 3) ls (.ref (ri_ad sa base (16 + h.length)) :: r.map (ri_v sa base))) := hw
    rw [ri_ad_new, ← hH.2] at hw
    exact hw
  · exact hf.elim
theorem s_aast (X : ri_X p s m args c cc nL Ts own D ka sa base) {kd ci N0 : Nat} {C : String} {T : u_T} (hkt : ri_kt[kd]? = some (.object C)) (hc : ri_cl[ci]? = some (C, T, N0)) (hd : decode cc (pf i) = .ok (.aastore, 1)) (hn : pf n = pf i + 1) : ri_snd (ri_W p l e R s m args below meth c D ka sa base nL Q pf) i (i_aast n kd ci) := by
  intro k hk U V L st h hf
  unfold i_aast at hf
  split at hf
  · rename_i v j q r
    split at hf
    · rename_i t N g hat
      obtain ⟨hin, hf⟩ := hf
      split at hf
      · rename_i c' fs hav
        replace hf := ri_bif hf; obtain ⟨hB, hf⟩ := hf
        replace hB := ri_and hB; obtain ⟨hq, hB⟩ := hB
        replace hB := ri_and hB; obtain ⟨hv, hB⟩ := hB
        obtain ⟨ht, hb⟩ := ri_and hB
        have e1 : t = kd := Nat.eq_of_beq_eq_true ht
        have e2 : c' = ci := Nat.eq_of_beq_eq_true hb
        subst e1; subst e2
        rw [ri_at_hi hq] at hat
        rw [ri_at_hi hv] at hav
        intro H locs ls hH hS hl
        show W p l e R s m args below meth c H locs U V Q (F0 m (pf i) ls (.ref (ri_ad sa base v) :: .int j :: .ref (ri_ad sa base q) :: r.map (ri_v sa base)))
        have had := ri_ad_hi (sa := sa) (base := base) hv
        rw [ri_ad_hi hq, had]
        have he := ri_w_get (sa := sa) (base := base) (ka := ka) hat
        have hlt : j.toNatClampNeg < N := Nat.not_le.mp fun z => hin (Or.inr z)
        obtain ⟨r', hr', cellV, g1, g2, g3, -⟩ := hH.1 (v - 16) _ (ri_w_get (sa := sa) (base := base) (ka := ka) hav)
        have hcls := (X.2.2.2.2.2.1.1 c' _ hc).2
        obtain ⟨kA, comp, k1, k2, k3, -⟩ := (X.2.2.2.2.2.1.2 t _ (ri_tys_get hkt)).2
        have hcomp : comp = D.1 c' := Option.some.inj (k3.symm.trans hcls.1)
        subst hcomp
        obtain ⟨kC, hkC, -⟩ := hcls.2
        refine W.aast X.1 X.2.1 (hH.1 (q - 16) _ he) (fun z hz => by cases hz) (fun hz => by cases hz) k1 k2 rfl hkC ⟨fun z => hin (Or.inl z), by show _ < (arrV _ _ _).slots.size; rw [arrV_size]; exact hlt⟩ g1 (fun z hz => by rw [g3] at hz; cases hz) (by rw [g2]; exact hkC) (by rw [g2]; exact va_assign hcls) rfl rfl hd fun H1 e1 z1 oq => ?_
        have hP1 : va_P D ri_cl ((ri_w sa base ka h).set (q - 16) (base + (q - 16), ri_c sa base ka (.inl (t, N, .inr (va_up g j.toNatClampNeg (some v)))))) H1 := by
          refine hH.1.set ri_w_D he ?_ oq
          show H1[base + (q - 16)]? = some (vp_cell (ka t) (N, .inr (.inr (.inr (.inr (fun a => (va_up g j.toNatClampNeg (some v) a).map (ri_ad sa base)))))))
          rw [e1]
          show some ((vp_cell (ka t) (N, .inr (.inr (.inr (.inr (fun a => (g a).map (ri_ad sa base))))))).setSlot _ _) = _
          rw [vp_cell_q, vp_cell_q, arrV_store]
          congr 2
          funext b
          by_cases hb2 : b = j.toNatClampNeg
          · subst hb2
            simp [updV, va_up, va_rf, had]
          · simp [updV, va_up, hb2]
        rw [ri_w_set] at hP1
        have hw := hk _ _ _ _ _ _ hf H1 _ ls ⟨hP1, by rw [z1, List.length_set]; exact hH.2⟩ (hS.put (k := j.toNatClampNeg) z1 oq (show base ≤ base + (q - 16) by omega)) hl
        rw [hn] at hw
        exact hw
      · exact hf.elim
    · exact hf.elim
  · exact hf.elim
theorem s_oi (X : ri_X p s m args c cc nL Ts own D ka sa base) {ix : Nat} (hlink : Cond.methodLink own ix Lib.objectInit ∈ Ts) (hinst : Cond.instanceMethod Lib.objectInit ∈ Ts) (hcode : Cond.code Lib.objectInit ⟨#[0xb1]⟩ 1 none ∈ Ts) (hd : decode cc (pf i) = .ok (.invokespecial ix, 3)) (hn : pf n = pf i + 3) : ri_snd (ri_W p l e R s m args below meth c D ka sa base nL Q pf) i (i_oi n R.frames R.locals) := by
  intro k hk U V L st h hf
  unfold i_oi at hf
  split at hf
  · rename_i q r
    replace hf := ri_bif hf; obtain ⟨hB, hf⟩ := hf
    obtain ⟨h1, h2⟩ := ri_and hB
    intro H locs ls hH hS hl
    have hw := hk _ _ _ _ _ _ hf H locs ls hH hS hl
    rw [hn] at hw
    have h2' := Nat.le_of_ble_eq_true h2
    exact W.objInit X.1 X.2.1 X.2.2.2.1 (X.2.2.2.2.1 _ hlink) (X.2.2.2.2.1 _ hinst) (X.2.2.2.2.1 _ hcode) rfl (by rw [X.2.2.1]; exact hl.1) (rest := r.map (ri_v sa base)) rfl hd (Nat.le_of_ble_eq_true h1) (by rw [ri_cats]; show 2 * 0 + _ + 12 ≤ _; omega) hw
  · exact hf.elim
theorem s_max (X : ri_X p s m args c cc nL Ts own D ka sa base) {ix : Nat} (hlink : Cond.methodLink own ix Lib.Math.max.name ∈ Ts) (hstat : Cond.static Lib.Math.max.name ∈ Ts) (hini : Cond.initialized "java/lang/Math" ∈ Ts) (hcode : Cond.code Lib.Math.max.name Lib.Math.max.code 2 (some .int) ∈ Ts) (hd : decode cc (pf i) = .ok (.invokestatic ix, 3)) (hn : pf n = pf i + 3) : ri_snd (ri_W p l e R s m args below meth c D ka sa base nL Q pf) i (i_m2 n (fun x y => if x < y then y else x) R.frames R.locals R.cells R.slots) := by
  intro k hk U V L st h hf
  unfold i_m2 at hf
  split at hf
  · replace hf := ri_bif hf; obtain ⟨hB, hf⟩ := hf
    replace hB := ri_and hB; obtain ⟨h1, hB⟩ := hB
    replace hB := ri_and hB; obtain ⟨h2, hB⟩ := hB
    obtain ⟨h3, h4⟩ := ri_and hB
    intro H locs ls hH hS hl
    have hw := hk _ _ _ _ _ _ hf H locs ls hH hS hl
    rw [hn] at hw
    exact va_mmax X.1 X.2.1 (by rw [X.2.2.1]; exact hl.1.symm) X.2.2.2.1 (X.2.2.2.2.1 _ hlink) (X.2.2.2.2.1 _ hstat) (X.2.2.2.2.1 _ hini) (X.2.2.2.2.1 _ hcode) (Nat.le_of_ble_eq_true h1) (by rw [ri_cats]; exact Nat.le_of_ble_eq_true h2) (Nat.le_of_ble_eq_true h3) (Nat.le_of_ble_eq_true h4) hd hw
  · exact hf.elim
theorem s_min (X : ri_X p s m args c cc nL Ts own D ka sa base) {ix : Nat} (hlink : Cond.methodLink own ix Lib.Math.min.name ∈ Ts) (hstat : Cond.static Lib.Math.min.name ∈ Ts) (hini : Cond.initialized "java/lang/Math" ∈ Ts) (hcode : Cond.code Lib.Math.min.name Lib.Math.min.code 2 (some .int) ∈ Ts) (hd : decode cc (pf i) = .ok (.invokestatic ix, 3)) (hn : pf n = pf i + 3) : ri_snd (ri_W p l e R s m args below meth c D ka sa base nL Q pf) i (i_m2 n (fun x y => if y < x then y else x) R.frames R.locals R.cells R.slots) := by
  intro k hk U V L st h hf
  unfold i_m2 at hf
  split at hf
  · replace hf := ri_bif hf; obtain ⟨hB, hf⟩ := hf
    replace hB := ri_and hB; obtain ⟨h1, hB⟩ := hB
    replace hB := ri_and hB; obtain ⟨h2, hB⟩ := hB
    obtain ⟨h3, h4⟩ := ri_and hB
    intro H locs ls hH hS hl
    have hw := hk _ _ _ _ _ _ hf H locs ls hH hS hl
    rw [hn] at hw
    exact va_mmin X.1 X.2.1 (by rw [X.2.2.1]; exact hl.1.symm) X.2.2.2.1 (X.2.2.2.2.1 _ hlink) (X.2.2.2.2.1 _ hstat) (X.2.2.2.2.1 _ hini) (X.2.2.2.2.1 _ hcode) (Nat.le_of_ble_eq_true h1) (by rw [ri_cats]; exact Nat.le_of_ble_eq_true h2) (Nat.le_of_ble_eq_true h3) (Nat.le_of_ble_eq_true h4) hd hw
  · exact hf.elim
theorem s_abs (X : ri_X p s m args c cc nL Ts own D ka sa base) {ix : Nat} (hlink : Cond.methodLink own ix Lib.Math.abs.name ∈ Ts) (hstat : Cond.static Lib.Math.abs.name ∈ Ts) (hini : Cond.initialized "java/lang/Math" ∈ Ts) (hcode : Cond.code Lib.Math.abs.name Lib.Math.abs.code 1 (some .int) ∈ Ts) (hd : decode cc (pf i) = .ok (.invokestatic ix, 3)) (hn : pf n = pf i + 3) : ri_snd (ri_W p l e R s m args below meth c D ka sa base nL Q pf) i (i_m1 n (fun x => if 0 ≤ x then x else 0 - x) R.frames R.locals R.cells R.slots) := by
  intro k hk U V L st h hf
  unfold i_m1 at hf
  split at hf
  · replace hf := ri_bif hf; obtain ⟨hB, hf⟩ := hf
    replace hB := ri_and hB; obtain ⟨h1, hB⟩ := hB
    replace hB := ri_and hB; obtain ⟨h2, hB⟩ := hB
    obtain ⟨h3, h4⟩ := ri_and hB
    intro H locs ls hH hS hl
    have hw := hk _ _ _ _ _ _ hf H locs ls hH hS hl
    rw [hn] at hw
    exact va_mabs X.1 X.2.1 (by rw [X.2.2.1]; exact hl.1.symm) X.2.2.2.1 (X.2.2.2.2.1 _ hlink) (X.2.2.2.2.1 _ hstat) (X.2.2.2.2.1 _ hini) (X.2.2.2.2.1 _ hcode) (Nat.le_of_ble_eq_true h1) (by rw [ri_cats]; exact Nat.le_of_ble_eq_true h2) (Nat.le_of_ble_eq_true h3) (Nat.le_of_ble_eq_true h4) hd hw
  · exact hf.elim
def ri_tg (x : Int32) : List (Int32 × Nat) → Nat → Nat
  | [], d => d
  | (v, t) :: r, d => if x = v then t else ri_tg x r d
theorem ri_sw_tg {P : Nat → Prop} {x : Int32} : ∀ (cs : List (Int32 × Nat)) (d : Nat), ri_sw P x cs d → P (ri_tg x cs d)
  | [], _, h => h
  | (v, t) :: r, d, h => by
    unfold ri_tg
    by_cases hx : x = v
    · rw [if_pos hx]; exact h.1 hx
    · rw [if_neg hx]; exact ri_sw_tg r d (h.2 hx)
theorem ri_tg_out {x : Int32} : ∀ (cs : List (Int32 × Nat)) (d : Nat), (∀ q ∈ cs, ¬ x = q.1) → ri_tg x cs d = d
  | [], _, _ => rfl
  | (v, t) :: r, d, h => by
    unfold ri_tg
    rw [if_neg (h (v, t) List.mem_cons_self)]
    exact ri_tg_out r d (fun q hq => h q (List.mem_cons_of_mem _ hq))
/-- a tableswitch: each of its places leads where the cases say -/
theorem s_tsw (X : ri_X p s m args c cc nL Ts own D ka sa base) {dflt lo hi : Int} {offs : Array Int} {len d : Nat} {cs : List (Int32 × Nat)} (hd : decode cc (pf i) = .ok (.tableswitch dflt lo hi offs, len)) (hdf : (pf i : Int) + dflt = (pf d : Int)) (hout : ∀ q ∈ cs, lo ≤ q.1.toInt ∧ q.1.toInt ≤ hi) (hcs : ∀ j : Nat, j < offs.size → ∃ off, offs[j]? = some off ∧ (pf i : Int) + off = (pf (ri_tg (Int32.ofInt (lo + j)) cs d) : Int)) (hsz : hi - lo < offs.size) : ri_snd (ri_W p l e R s m args below meth c D ka sa base nL Q pf) i (i_sw cs d) := by
  intro k hk U V L st h hf
  unfold i_sw at hf
  split at hf
  · rename_i x r
    have hf2 := ri_sw_tg cs d hf
    intro H locs ls hH hS hl
    have hw := hk _ _ _ _ _ _ hf2 H locs ls hH hS hl
    by_cases hx : x.toInt < lo ∨ hi < x.toInt
    · have e : ri_tg x cs d = d := ri_tg_out cs d (fun q hq z => by
        have := hout q hq
        rw [← z] at this
        omega)
      rw [e] at hw
      exact lv_tableOut X.1 X.2.1 hd hx hdf hw
    · obtain ⟨off, ho, ht⟩ := hcs (x.toInt - lo).toNat (by omega)
      have e : Int32.ofInt (lo + ((x.toInt - lo).toNat : Int)) = x := by
        rw [Int.toNat_of_nonneg (by omega), show lo + (x.toInt - lo) = x.toInt by omega]
        exact Int32.ofInt_toInt x
      rw [e] at ht
      exact lv_tableIn X.1 X.2.1 hd (fun z => hx (Or.inl z)) (fun z => hx (Or.inr z)) ho ht hw
  · exact hf.elim
theorem ri_lk {x : Int32} {pi : Nat} {dflt : Int} {d : Nat} (hdf : (pi : Int) + dflt = (pf d : Int)) : ∀ (ps : List (Int × Int)) (cs : List (Int32 × Nat)), ps.length = cs.length → (∀ (j : Nat) (a : Int × Int) (q : Int32 × Nat), ps[j]? = some a → cs[j]? = some q → q.1.toInt = a.1 ∧ (pi : Int) + a.2 = (pf q.2 : Int)) → (pi : Int) + Op.lookupswitch.offset ps dflt x.toInt = (pf (ri_tg x cs d) : Int)
  | [], [], _, _ => by simpa [Op.lookupswitch.offset, ri_tg] using hdf
  | a :: ps, (v, t) :: cs, hl, h => by
    have h0 := h 0 a (v, t) rfl rfl
    obtain ⟨a1, a2⟩ := a
    rw [Op.lookupswitch.offset_cons]
    unfold ri_tg
    by_cases hx : x = v
    · rw [if_pos hx, if_pos (by rw [hx]; exact h0.1.symm)]
      exact h0.2
    · rw [if_neg hx, if_neg (by intro z; exact hx (Int32.toInt_inj.mp (z.symm.trans h0.1.symm)))]
      exact ri_lk hdf ps cs (by simpa using hl) (fun j a q ha hq => h (j + 1) a q (by simpa using ha) (by simpa using hq))
theorem s_lsw (X : ri_X p s m args c cc nL Ts own D ka sa base) {dflt : Int} {ps : Array (Int × Int)} {len d : Nat} {cs : List (Int32 × Nat)} (hd : decode cc (pf i) = .ok (.lookupswitch dflt ps, len)) (hp : (ps.toList.zip (ps.toList.drop 1)).all (fun (a, next) => a.1 < next.1) = true) (hdf : (pf i : Int) + dflt = (pf d : Int)) (hlen : ps.toList.length = cs.length) (hcs : ∀ (j : Nat) (a : Int × Int) (q : Int32 × Nat), ps.toList[j]? = some a → cs[j]? = some q → q.1.toInt = a.1 ∧ (pf i : Int) + a.2 = (pf q.2 : Int)) : ri_snd (ri_W p l e R s m args below meth c D ka sa base nL Q pf) i (i_sw cs d) := by
  intro k hk U V L st h hf
  unfold i_sw at hf
  split at hf
  · rename_i x r
    have hf2 := ri_sw_tg cs d hf
    intro H locs ls hH hS hl
    have hw := hk _ _ _ _ _ _ hf2 H locs ls hH hS hl
    exact lv_lookup X.1 X.2.1 hd hp rfl (ri_lk hdf ps.toList cs hlen hcs) hw
  · exact hf.elim
end RIV
end
section
/-! what the methods' lists need beside the instructions: the words' goodness, calls' conditions, longs on the stack -/
def ri_cl2 (J : ri_K) : Nat → List ri_S → Prop
  | _, [] => True
  | i, f :: r => ri_snd J i f ∧ ri_cl2 J (i + 1) r
theorem ri_cl2_at {J : ri_K} : ∀ (tab : List ri_S) (o i : Nat) (f : ri_S), ri_cl2 J o tab → tab[i]? = some f → ri_snd J (o + i) f
  | [], _, _, _, _, h => by simp at h
  | g :: r, o, i, f, hc, h => by
    cases i with
    | zero =>
      rw [List.getElem?_cons_zero] at h
      cases h
      exact hc.1
    | succ i =>
      rw [List.getElem?_cons_succ] at h
      rw [show o + (i + 1) = o + 1 + i by omega]
      exact ri_cl2_at r (o + 1) i f hc.2 h
theorem ri_clo_of {J : ri_K} {tab : List ri_S} (h : ri_cl2 J 0 tab) : ri_clo J tab := fun i f hi => by
  have := ri_cl2_at tab 0 i f h hi
  rw [Nat.zero_add] at this
  exact this
theorem ri_NW_ok : ∀ w ∈ ri_NW, ri_isN w = true := by
  have h : ri_NW.all ri_isN = true := by decide +kernel
  exact List.all_eq_true.mp h
theorem ri_gT_ok : ∀ w ∈ ri_gT, goodWord w = true := by
  have h : ri_gT.all goodWord = true := by decide +kernel
  exact List.all_eq_true.mp h
def ri_isZ (v : Value) : Bool := match v with
  | .int x => x == 0 || x == 1
  | _ => false
theorem ri_ok_int {sa : Nat → Nat} {base : Nat} : ∀ v, ri_isI v = true → narrow .int (ri_v sa base v) = ri_v sa base v ∧ fits .int (ri_v sa base v) = true := by
  intro v h
  cases v <;> first | exact ⟨rfl, rfl⟩ | cases h
theorem ri_ok_bool {sa : Nat → Nat} {base : Nat} : ∀ v, ri_isZ v = true → narrow .boolean (ri_v sa base v) = ri_v sa base v ∧ fits .boolean (ri_v sa base v) = true := by
  intro v h
  cases v with
  | int x =>
    have h2 : x = 0 ∨ x = 1 := by
      simp only [ri_isZ, Bool.or_eq_true, beq_iff_eq] at h
      exact h
    rcases h2 with rfl | rfl <;> exact ⟨rfl, rfl⟩
  | _ => cases h
theorem ri_ok_ref {sa : Nat → Nat} {base : Nat} {C : String} : ∀ v, ri_isR v = true → narrow (.object C) (ri_v sa base v) = ri_v sa base v ∧ fits (.object C) (ri_v sa base v) = true := by
  intro v h
  cases v <;> first | exact ⟨rfl, rfl⟩ | cases h
theorem ri_ok_arr {sa : Nat → Nat} {base : Nat} {t : FieldType} : ∀ v, ri_isR v = true → narrow (.array t) (ri_v sa base v) = ri_v sa base v ∧ fits (.array t) (ri_v sa base v) = true := by
  intro v h
  cases v <;> first | exact ⟨rfl, rfl⟩ | cases h
theorem ri_kt_all : ∀ t < ri_kt.length, ∃ ty, ri_kt[t]? = some ty := fun t h => ⟨_, List.getElem?_eq_getElem h⟩
theorem ri_lsw_ck {pf : Nat → Nat} {pi : Nat} {ps : List (Int × Int)} {cs : List (Int32 × Nat)} (h : (ps.zip cs).all (fun z => decide (z.2.1.toInt = z.1.1) && decide ((pi : Int) + z.1.2 = (pf z.2.2 : Int))) = true) : ∀ (j : Nat) (a : Int × Int) (q : Int32 × Nat), ps[j]? = some a → cs[j]? = some q → q.1.toInt = a.1 ∧ (pi : Int) + a.2 = (pf q.2 : Int) := by
  intro j a q ha hq
  have hz : (ps.zip cs)[j]? = some (a, q) := by
    rw [List.getElem?_zip_eq_some]
    exact ⟨ha, hq⟩
  have := List.all_eq_true.mp h _ (List.mem_of_getElem? hz)
  simp only [Bool.and_eq_true, decide_eq_true_eq] at this
  exact this
def i_lcon (n : Nat) (v : Int64) : ri_S := fun k U V L st h => k n U V L (.long v :: st) h
def i_i2l (n : Nat) : ri_S := fun k U V L st h => match st with
  | .int x :: r => k n U V L (.long x.toInt64 :: r) h
  | _ => False
section RIG
variable {p : Program} {l : Launch} {e : Env} {R : Room} {s : State} {m : MethodId} {args : Array Value} {below : List Frame} {meth : Method} {c : Code} {Q : State → Prop} {cc : ByteArray} {nL : Nat} {own : String} {D : va_G} {ka : Nat → ClassId} {sa : Nat → Nat} {base : Nat} {pf : Nat → Nat} {i n : Nat} {Ts : List Cond}
theorem s_ldcw (X : ri_X p s m args c cc nL Ts own D ka sa base) {ix : Nat} {v : Int32} (hd : decode cc (pf i) = .ok (.ldc_w ix, 3)) (hv : Cond.constant own ix v ∈ Ts) (hn : pf n = pf i + 3) : ri_snd (ri_W p l e R s m args below meth c D ka sa base nL Q pf) i (i_con n v) := by
  intro k hk U V L st h hf H locs ls hH hS hl
  have hw := hk _ _ _ _ _ _ hf H locs ls hH hS hl
  rw [hn] at hw
  exact lv_ldcw X.1 X.2.1 X.2.2.2.1 (X.2.2.2.2.1 _ hv) hd hw
theorem s_lconst (X : ri_X p s m args c cc nL Ts own D ka sa base) {z : Fin 2} {v : Int64} (hd : decode cc (pf i) = .ok (.lconst z, 1)) (hv : Int64.ofNat z = v) (hn : pf n = pf i + 1) : ri_snd (ri_W p l e R s m args below meth c D ka sa base nL Q pf) i (i_lcon n v) := by
  intro k hk U V L st h hf H locs ls hH hS hl
  have hw := hk _ _ _ _ _ _ hf H locs ls hH hS hl
  rw [hn] at hw
  exact lv_lconst X.1 X.2.1 hd hv hw
theorem s_ldc2 (X : ri_X p s m args c cc nL Ts own D ka sa base) {ix : Nat} {v : Int64} (hd : decode cc (pf i) = .ok (.ldc2_w ix, 3)) (hv : Cond.constantLong own ix v ∈ Ts) (hn : pf n = pf i + 3) : ri_snd (ri_W p l e R s m args below meth c D ka sa base nL Q pf) i (i_lcon n v) := by
  intro k hk U V L st h hf H locs ls hH hS hl
  have hw := hk _ _ _ _ _ _ hf H locs ls hH hS hl
  rw [hn] at hw
  exact lv_ldc2 X.1 X.2.1 X.2.2.2.1 (X.2.2.2.2.1 _ hv) hd hw
theorem s_i2l (X : ri_X p s m args c cc nL Ts own D ka sa base) (hd : decode cc (pf i) = .ok (.i2l, 1)) (hn : pf n = pf i + 1) : ri_snd (ri_W p l e R s m args below meth c D ka sa base nL Q pf) i (i_i2l n) := by
  intro k hk U V L st h hf
  unfold i_i2l at hf
  split at hf
  · intro H locs ls hH hS hl
    have hw := hk _ _ _ _ _ _ hf H locs ls hH hS hl
    rw [hn] at hw
    exact lv_i2l X.1 X.2.1 hd rfl hw
  · exact hf.elim
theorem ri_good {y y0 : MethodName} {bytes cc0 : ByteArray} {maxL nL0 : Nat} {ret r0 : Option FieldType} (hcode : Cond.code y bytes maxL ret ∈ ri_gT) : GoodIn (Cond.code y0 cc0 nL0 r0 :: ri_gT) (Cond.code y bytes maxL ret :: ri_gT) := by
  intro w hw
  have h : w ∈ ri_gT := (List.mem_cons.mp hw).elim (fun z => z ▸ hcode) id
  exact ⟨List.mem_cons_of_mem _ h, good_of_word (ri_gT_ok w h)⟩
theorem ri_cB {y0 y : MethodName} {r0 ret : Option FieldType} {bytes : ByteArray} {maxL mc ms ix : Nat} {rm rm2 : Room} (X : ri_X p s m args c cc nL (Cond.code y0 cc nL r0 :: ri_gT) own D ka sa base) (na : Nat) (hcode : Cond.code y bytes maxL ret ∈ ri_gT) (hini : Cond.initialized y.cls ∈ Cond.code y0 cc nL r0 :: ri_gT) (hlink : Cond.methodLink own ix y ∈ Cond.code y0 cc nL r0 :: ri_gT) (hd : y.cls ≠ "java/lang/invoke/MethodHandle" ∧ y.cls ≠ "java/lang/invoke/VarHandle" ∧ (parseMethodDescriptor y.desc).map (fun d => d.parameters.length) = some na) (hrc : rm2.cells = mc) (hrs : rm2.slots = ms) (hR : rm2.frames + 1 ≤ rm.frames ∧ 8 + (maxL + 11) + rm2.locals ≤ rm.locals) : CallB rm s args own ix y bytes maxL ret (Cond.code y bytes maxL ret :: ri_gT) rm2 mc ms na :=
  callB_of na X.2.2.2.2.1 (ri_good hcode) rfl hrc hrs (X.2.2.2.2.1 _ hini) (X.2.2.2.2.1 _ hlink) hd hR
theorem ri_cN {y0 y : MethodName} {r0 ret : Option FieldType} {bytes : ByteArray} {maxL mc ms ix : Nat} {rm rm2 : Room} {host : String} (X : ri_X p s m args c cc nL (Cond.code y0 cc nL r0 :: ri_gT) own D ka sa base) (na : Nat) (hcode : Cond.code y bytes maxL ret ∈ ri_gT) (hini : Cond.initialized y.cls ∈ Cond.code y0 cc nL r0 :: ri_gT) (hlink : Cond.methodLinkNest own ix y host ∈ ri_NW) (hd : y.cls ≠ "java/lang/invoke/MethodHandle" ∧ y.cls ≠ "java/lang/invoke/VarHandle" ∧ (parseMethodDescriptor y.desc).map (fun d => d.parameters.length) = some na) (hrc : rm2.cells = mc) (hrs : rm2.slots = ms) (hR : rm2.frames + 1 ≤ rm.frames ∧ 8 + (maxL + 11) + rm2.locals ≤ rm.locals) : va_CN rm s args own ix y host bytes maxL ret (Cond.code y bytes maxL ret :: ri_gT) rm2 mc ms na :=
  va_cnB na X.2.2.2.2.1 (ri_good hcode) rfl hrc hrs (X.2.2.2.2.2.2.1 _ hlink) (X.2.2.2.2.1 _ hini) hd hR
end RIG
theorem uC_0 : ∀ w ∈ u_ws RC_0 TC_0 9, w ∈ ri_gT := by
  have e : u_ws RC_0 TC_0 9 = [gw_59, gw_61, gw_63, gw_65, gw_67, gw_69, gw_71, gw_73, gw_75] := rfl
  rw [e]
  exact List.forall_mem_cons.mpr ⟨mgw_59, List.forall_mem_cons.mpr ⟨mgw_61, List.forall_mem_cons.mpr ⟨mgw_63, List.forall_mem_cons.mpr ⟨mgw_65, List.forall_mem_cons.mpr ⟨mgw_67, List.forall_mem_cons.mpr ⟨mgw_69, List.forall_mem_cons.mpr ⟨mgw_71, List.forall_mem_cons.mpr ⟨mgw_73, List.forall_mem_cons.mpr ⟨mgw_75, List.forall_mem_nil _⟩⟩⟩⟩⟩⟩⟩⟩⟩
theorem fC_0 : ∀ j, j < 9 → defaultValue (tC_0 j) = vp_V [.int 0, .int 0, .null, .null, .null, .null, .null, .null, .null] j := by decide
theorem uC_1 : ∀ w ∈ u_ws RC_1 TC_1 7, w ∈ ri_gT := by
  have e : u_ws RC_1 TC_1 7 = [gw_126, gw_128, gw_130, gw_132, gw_134, gw_136, gw_138] := rfl
  rw [e]
  exact List.forall_mem_cons.mpr ⟨mgw_126, List.forall_mem_cons.mpr ⟨mgw_128, List.forall_mem_cons.mpr ⟨mgw_130, List.forall_mem_cons.mpr ⟨mgw_132, List.forall_mem_cons.mpr ⟨mgw_134, List.forall_mem_cons.mpr ⟨mgw_136, List.forall_mem_cons.mpr ⟨mgw_138, List.forall_mem_nil _⟩⟩⟩⟩⟩⟩⟩
theorem fC_1 : ∀ j, j < 7 → defaultValue (tC_1 j) = vp_V [.int 0, .int 0, .int 0, .null, .null, .null, .null] j := by decide
theorem uC_2 : ∀ w ∈ u_ws RC_2 TC_2 5, w ∈ ri_gT := by
  have e : u_ws RC_2 TC_2 5 = [gw_152, gw_154, gw_156, gw_158, gw_160] := rfl
  rw [e]
  exact List.forall_mem_cons.mpr ⟨mgw_152, List.forall_mem_cons.mpr ⟨mgw_154, List.forall_mem_cons.mpr ⟨mgw_156, List.forall_mem_cons.mpr ⟨mgw_158, List.forall_mem_cons.mpr ⟨mgw_160, List.forall_mem_nil _⟩⟩⟩⟩⟩
theorem fC_2 : ∀ j, j < 5 → defaultValue (tC_2 j) = vp_V [.null, .null, .null, .null, .null] j := by decide
theorem uC_3 : ∀ w ∈ u_ws RC_3 TC_3 5, w ∈ ri_gT := by
  have e : u_ws RC_3 TC_3 5 = [gw_174, gw_176, gw_178, gw_180, gw_182] := rfl
  rw [e]
  exact List.forall_mem_cons.mpr ⟨mgw_174, List.forall_mem_cons.mpr ⟨mgw_176, List.forall_mem_cons.mpr ⟨mgw_178, List.forall_mem_cons.mpr ⟨mgw_180, List.forall_mem_cons.mpr ⟨mgw_182, List.forall_mem_nil _⟩⟩⟩⟩⟩
theorem fC_3 : ∀ j, j < 5 → defaultValue (tC_3 j) = vp_V [.null, .int 0, .int 0, .null, .null] j := by decide
theorem uC_4 : ∀ w ∈ u_ws RC_4 TC_4 4, w ∈ ri_gT := by
  have e : u_ws RC_4 TC_4 4 = [gw_222, gw_224, gw_226, gw_228] := rfl
  rw [e]
  exact List.forall_mem_cons.mpr ⟨mgw_222, List.forall_mem_cons.mpr ⟨mgw_224, List.forall_mem_cons.mpr ⟨mgw_226, List.forall_mem_cons.mpr ⟨mgw_228, List.forall_mem_nil _⟩⟩⟩⟩
theorem fC_4 : ∀ j, j < 4 → defaultValue (tC_4 j) = vp_V [.null, .null, .null, .int 0] j := by decide
theorem uC_5 : ∀ w ∈ u_ws RC_5 TC_5 3, w ∈ ri_gT := by
  have e : u_ws RC_5 TC_5 3 = [gw_208, gw_210, gw_212] := rfl
  rw [e]
  exact List.forall_mem_cons.mpr ⟨mgw_208, List.forall_mem_cons.mpr ⟨mgw_210, List.forall_mem_cons.mpr ⟨mgw_212, List.forall_mem_nil _⟩⟩⟩
theorem fC_5 : ∀ j, j < 3 → defaultValue (tC_5 j) = vp_V [.int 0, .null, .null] j := by decide
theorem uC_6 : ∀ w ∈ u_ws RC_6 TC_6 5, w ∈ ri_gT := by
  have e : u_ws RC_6 TC_6 5 = [gw_244, gw_246, gw_248, gw_250, gw_252] := rfl
  rw [e]
  exact List.forall_mem_cons.mpr ⟨mgw_244, List.forall_mem_cons.mpr ⟨mgw_246, List.forall_mem_cons.mpr ⟨mgw_248, List.forall_mem_cons.mpr ⟨mgw_250, List.forall_mem_cons.mpr ⟨mgw_252, List.forall_mem_nil _⟩⟩⟩⟩⟩
theorem fC_6 : ∀ j, j < 5 → defaultValue (tC_6 j) = vp_V [.null, .null, .null, .null, .null] j := by decide
theorem uC_7 : ∀ w ∈ u_ws RC_7 TC_7 2, w ∈ ri_gT := by
  have e : u_ws RC_7 TC_7 2 = [gw_265, gw_267] := rfl
  rw [e]
  exact List.forall_mem_cons.mpr ⟨mgw_265, List.forall_mem_cons.mpr ⟨mgw_267, List.forall_mem_nil _⟩⟩
theorem fC_7 : ∀ j, j < 2 → defaultValue (tC_7 j) = vp_V [.null, .null] j := by decide
theorem uC_8 : ∀ w ∈ u_ws RC_8 TC_8 15, w ∈ ri_gT := by
  have e : u_ws RC_8 TC_8 15 = [gw_294, gw_296, gw_298, gw_300, gw_302, gw_304, gw_306, gw_308, gw_310, gw_312, gw_314, gw_316, gw_318, gw_320, gw_322] := rfl
  rw [e]
  exact List.forall_mem_cons.mpr ⟨mgw_294, List.forall_mem_cons.mpr ⟨mgw_296, List.forall_mem_cons.mpr ⟨mgw_298, List.forall_mem_cons.mpr ⟨mgw_300, List.forall_mem_cons.mpr ⟨mgw_302, List.forall_mem_cons.mpr ⟨mgw_304, List.forall_mem_cons.mpr ⟨mgw_306, List.forall_mem_cons.mpr ⟨mgw_308, List.forall_mem_cons.mpr ⟨mgw_310, List.forall_mem_cons.mpr ⟨mgw_312, List.forall_mem_cons.mpr ⟨mgw_314, List.forall_mem_cons.mpr ⟨mgw_316, List.forall_mem_cons.mpr ⟨mgw_318, List.forall_mem_cons.mpr ⟨mgw_320, List.forall_mem_cons.mpr ⟨mgw_322, List.forall_mem_nil _⟩⟩⟩⟩⟩⟩⟩⟩⟩⟩⟩⟩⟩⟩⟩
theorem fC_8 : ∀ j, j < 15 → defaultValue (tC_8 j) = vp_V [.null, .null, .null, .null, .null, .null, .null, .null, .int 0, .null, .null, .null, .null, .int 0, .int 0] j := by decide
theorem uC_9 : ∀ w ∈ u_ws RC_9 TC_9 5, w ∈ ri_gT := by
  have e : u_ws RC_9 TC_9 5 = [gw_330, gw_332, gw_334, gw_336, gw_338] := rfl
  rw [e]
  exact List.forall_mem_cons.mpr ⟨mgw_330, List.forall_mem_cons.mpr ⟨mgw_332, List.forall_mem_cons.mpr ⟨mgw_334, List.forall_mem_cons.mpr ⟨mgw_336, List.forall_mem_cons.mpr ⟨mgw_338, List.forall_mem_nil _⟩⟩⟩⟩⟩
theorem fC_9 : ∀ j, j < 5 → defaultValue (tC_9 j) = vp_V [.null, .null, .null, .null, .null] j := by decide
theorem uC_10 : ∀ w ∈ u_ws RC_10 TC_10 36, w ∈ ri_gT := by
  have e : u_ws RC_10 TC_10 36 = [gw_850, gw_852, gw_854, gw_856, gw_858, gw_860, gw_862, gw_864, gw_866, gw_868, gw_870, gw_872, gw_874, gw_876, gw_878, gw_880, gw_882, gw_884, gw_886, gw_888, gw_890, gw_892, gw_894, gw_896, gw_898, gw_900, gw_902, gw_904, gw_906, gw_908, gw_910, gw_912, gw_914, gw_916, gw_918, gw_920] := rfl
  rw [e]
  exact List.forall_mem_cons.mpr ⟨mgw_850, List.forall_mem_cons.mpr ⟨mgw_852, List.forall_mem_cons.mpr ⟨mgw_854, List.forall_mem_cons.mpr ⟨mgw_856, List.forall_mem_cons.mpr ⟨mgw_858, List.forall_mem_cons.mpr ⟨mgw_860, List.forall_mem_cons.mpr ⟨mgw_862, List.forall_mem_cons.mpr ⟨mgw_864, List.forall_mem_cons.mpr ⟨mgw_866, List.forall_mem_cons.mpr ⟨mgw_868, List.forall_mem_cons.mpr ⟨mgw_870, List.forall_mem_cons.mpr ⟨mgw_872, List.forall_mem_cons.mpr ⟨mgw_874, List.forall_mem_cons.mpr ⟨mgw_876, List.forall_mem_cons.mpr ⟨mgw_878, List.forall_mem_cons.mpr ⟨mgw_880, List.forall_mem_cons.mpr ⟨mgw_882, List.forall_mem_cons.mpr ⟨mgw_884, List.forall_mem_cons.mpr ⟨mgw_886, List.forall_mem_cons.mpr ⟨mgw_888, List.forall_mem_cons.mpr ⟨mgw_890, List.forall_mem_cons.mpr ⟨mgw_892, List.forall_mem_cons.mpr ⟨mgw_894, List.forall_mem_cons.mpr ⟨mgw_896, List.forall_mem_cons.mpr ⟨mgw_898, List.forall_mem_cons.mpr ⟨mgw_900, List.forall_mem_cons.mpr ⟨mgw_902, List.forall_mem_cons.mpr ⟨mgw_904, List.forall_mem_cons.mpr ⟨mgw_906, List.forall_mem_cons.mpr ⟨mgw_908, List.forall_mem_cons.mpr ⟨mgw_910, List.forall_mem_cons.mpr ⟨mgw_912, List.forall_mem_cons.mpr ⟨mgw_914, List.forall_mem_cons.mpr ⟨mgw_916, List.forall_mem_cons.mpr ⟨mgw_918, List.forall_mem_cons.mpr ⟨mgw_920, List.forall_mem_nil _⟩⟩⟩⟩⟩⟩⟩⟩⟩⟩⟩⟩⟩⟩⟩⟩⟩⟩⟩⟩⟩⟩⟩⟩⟩⟩⟩⟩⟩⟩⟩⟩⟩⟩⟩⟩
theorem fC_10 : ∀ j, j < 36 → defaultValue (tC_10 j) = vp_V [.int 0, .null, .null, .null, .null, .int 0, .int 0, .int 0, .null, .null, .null, .null, .null, .null, .null, .null, .null, .null, .null, .null, .null, .null, .null, .null, .null, .null, .int 0, .null, .null, .null, .int 0, .null, .int 0, .null, .null, .int 0] j := by decide
end
section
/-! multianewarray, of two dimensions, the inner one of ints: rows of our own -/
/-- what the table's word on arrays of int arrays says -/
theorem mu_over {args : Array Value} {s : State} (h : (Cond.arrayOver (.array .int)).before args s = true) : ∃ (co : ClassId) (cA : ClassId) (k : Class), s.vm.findClass "[I" = some co ∧ s.vm.classes[cA]? = some k ∧ k.kind = .array co (.array .int) ∧ s.vm.findClass "[[I" = some cA := by
  unfold Cond.before Cond.holds at h
  simp only [Cond.value, beq_iff_eq] at h
  obtain ⟨co, hco, h⟩ := Option.bind_eq_some_iff.mp h
  obtain ⟨cA, hi, h⟩ := Option.bind_eq_some_iff.mp h
  obtain ⟨k, hk, h⟩ := Option.map_eq_some_iff.mp h
  obtain ⟨hlt, hp, -⟩ := Array.findIdx?_eq_some_iff_getElem.mp hi
  rw [(Array.getElem?_eq_some_iff.mp hk).2] at hp
  refine ⟨co, cA, k, hco, hk, ?_⟩
  generalize k.kind = K at hp h
  cases K with
  | array a t =>
    simp only [Bool.and_eq_true, beq_iff_eq, decide_eq_true_eq] at hp h
    exact ⟨by rw [hp, h.1], h.2⟩
  | _ => cases hp
/-- what stands in the outer array once i inner ones are made, the outer one at a -/
def mu_f (a i j : Nat) : Value := if j < i then .ref (a + 1 + j) else .null
theorem mu_f_next (a i : Nat) : updV (mu_f a i) i (.ref (a + 1 + i)) = mu_f a (i + 1) := by
  funext j
  unfold updV mu_f
  rcases Nat.lt_trichotomy j i with h | h | h
  · rw [if_neg (Nat.ne_of_lt h), if_pos h, if_pos (Nat.lt_succ_of_lt h)]
  · subst h
    rw [if_pos rfl, if_pos (Nat.lt_succ_self _)]
  · rw [if_neg (Nat.ne_of_gt h), if_neg (Nat.not_lt_of_gt h), if_neg (by omega)]
/-- the state once i inner arrays are made -/
def mu_s (T : State) (cA c0 : ClassId) (N M : Nat) : Nat → State
  | 0 => T.pushCell (arrV cA N (mu_f T.heap.size 0))
  | i + 1 => ((mu_s T cA c0 N M i).pushCell (arrV c0 M (fun _ => .int 0))).setCell T.heap.size (arrV cA N (mu_f T.heap.size (i + 1)))
theorem mu_top (T : State) (f : JFrame) (cA c0 : ClassId) (N M i : Nat) : mu_s (T.setTop f) cA c0 N M i = (mu_s T cA c0 N M i).setTop f := by
  induction i with
  | zero => rfl
  | succ i ih => rw [mu_s, ih]; rfl
theorem mu_is (T : State) (cA c0 : ClassId) (N M i : Nat) : ((mu_s T cA c0 N M i).heap.size = T.heap.size + 1 + i ∧ (mu_s T cA c0 N M i).vm = T.vm ∧ (mu_s T cA c0 N M i).slotsUsed = T.slotsUsed + N + i * M) ∧ (mu_s T cA c0 N M i).heap[T.heap.size]? = some (arrV cA N (mu_f T.heap.size i)) ∧ (∀ q, q < T.heap.size → (mu_s T cA c0 N M i).heap[q]? = T.heap[q]?) ∧ ∀ j, j < i → (mu_s T cA c0 N M i).heap[T.heap.size + 1 + j]? = some (arrV c0 M (fun _ => .int 0)) := by
  induction i with
  | zero =>
    refine ⟨⟨by simp [mu_s], rfl, by simp [mu_s, arrV_size]⟩, State.heap_pushCell_size _ _, fun q hq => State.heap_pushCell_of_lt _ _ hq, fun j hj => absurd hj (Nat.not_lt_zero _)⟩
  | succ i ih =>
    obtain ⟨⟨z, v, u⟩, a, o, n⟩ := ih
    rw [mu_s]
    generalize mu_s T cA c0 N M i = S at z v u a o n
    have old : ∀ q, q < T.heap.size + 1 + i → (S.pushCell (arrV c0 M (fun _ => .int 0))).heap[q]? = S.heap[q]? := fun q hq => State.heap_pushCell_of_lt _ _ (by rw [z]; exact hq)
    have oth : ∀ q, q ≠ T.heap.size → ((S.pushCell (arrV c0 M (fun _ => .int 0))).setCell T.heap.size (arrV cA N (mu_f T.heap.size (i + 1)))).heap[q]? = (S.pushCell (arrV c0 M (fun _ => .int 0))).heap[q]? := fun q hq => State.heap_setCell_other (Ne.symm hq)
    refine ⟨⟨?_, ?_, ?_⟩, State.heap_setCell_self ((old _ (by omega)).trans a), fun q hq => ?_, fun j hj => ?_⟩
    · simp [State.setCell, z]; omega
    · simp [v]
    · simp [u, arrV_size, Nat.succ_mul]; omega
    · rw [oth q (Nat.ne_of_lt hq), old q (by omega), o q hq]
    · rw [oth _ (by omega)]
      rcases Nat.lt_or_ge j i with h | h
      · rw [old _ (by omega), n j h]
      · obtain rfl : j = i := by omega
        rw [← z]
        exact State.heap_pushCell_size _ _
section MUW
variable {E : CtlPost} {e : Env} {d : Bool} {acts : List Action} {s : State}
/-- one inner array -/
theorem mu_in {c0 cc : ClassId} {k0 : Class} {y : Int32} (hk : s.vm.classes[c0]? = some k0) (hki : k0.kind = .array cc .int) (hy : ¬ y < 0) (hl : ¬ y.toNatClampNeg > e.platform.arrayLengthLimit) (hh : ¬ y.toNatClampNeg * 4 > e.platform.maxHeapBytes) (h1 : s.heap.size < e.platform.maxCells) (h2 : s.slotsUsed + y.toNatClampNeg ≤ e.platform.maxSlots) {Q : Addr → Pre} (hq : ∀ acts', Q s.heap.size d acts' (s.pushCell (arrV c0 y.toNatClampNeg (fun _ => .int 0)))) : wp (multianewarray.make c0 [y]) Q E e d acts s := by
  rw [multianewarray.make]
  simp only [wp_bind', W.ite, hy, if_false, wp_pure', W.theClass, hk, hki, Option.some.injEq, exists_eq_left']
  refine W.newArray_of hk hki hl hh h1 h2 rfl fun acts' => ?_
  have hc := hq acts'
  rw [← arrV_new] at hc
  exact hc
/-- both dimensions -/
theorem mu_out {cA c0 cc : ClassId} {kA k0 : Class} {x y : Int32} (hA : s.vm.classes[cA]? = some kA) (hAi : kA.kind = .array c0 (.array .int)) (hk : s.vm.classes[c0]? = some k0) (hki : k0.kind = .array cc .int) (hx : ¬ x < 0) (hy : ¬ y < 0) (hl : ∀ n, n * 4 ≤ 536870912 → ¬ n > e.platform.arrayLengthLimit ∧ ¬ n * 4 > e.platform.maxHeapBytes) (hx4 : x.toNatClampNeg * 4 ≤ 536870912) (hy4 : y.toNatClampNeg * 4 ≤ 536870912) (h1 : s.heap.size + (1 + x.toNatClampNeg) ≤ e.platform.maxCells) (h2 : s.slotsUsed + (x.toNatClampNeg + x.toNatClampNeg * y.toNatClampNeg) ≤ e.platform.maxSlots) {Q : Addr → Pre} (hq : ∀ d' acts', Q s.heap.size d' acts' (mu_s s cA c0 x.toNatClampNeg y.toNatClampNeg x.toNatClampNeg)) : wp (multianewarray.make cA [x, y]) Q E e d acts s := by
  have hno : List.find? (fun z : Int32 => decide (z < 0)) [y] = none := by simp [hy]
  rw [multianewarray.make]
  simp only [wp_bind', W.ite, hx, if_false, wp_pure', W.theClass, hA, hAi, Option.some.injEq, exists_eq_left', hno, ite_self]
  refine W.newArray_of hA hAi (hl _ hx4).1 (hl _ hx4).2 (by omega) (by omega) rfl fun acts' => ?_
  have e0 : s.pushCell { cls := cA, slots := Array.replicate x.toNatClampNeg .null } = mu_s s cA c0 x.toNatClampNeg y.toNatClampNeg 0 := congrArg s.pushCell (arrV_new cA x.toNatClampNeg .null)
  rw [e0, Std.Legacy.Range.forIn_eq_forIn_range', show ([:x.toNatClampNeg] : Std.Legacy.Range).size = x.toNatClampNeg by simp [Std.Legacy.Range.size], wp_bind']
  refine wp_forIn_inv (fun rest S => rest.length ≤ x.toNatClampNeg ∧ rest = List.range' (x.toNatClampNeg - rest.length) rest.length ∧ S = mu_s s cA c0 x.toNatClampNeg y.toNatClampNeg (x.toNatClampNeg - rest.length)) _ _ ⟨Nat.le_of_eq List.length_range', by rw [List.length_range', Nat.sub_self], by rw [List.length_range', Nat.sub_self]⟩ ?_ ?_
  · rintro i rest S d' acts' Q' ⟨hle, hr, rfl⟩ hnext
    rw [List.length_cons] at hle hr ⊢
    rw [List.range'_succ] at hr
    obtain ⟨hi, hr⟩ := List.cons.inj hr
    obtain ⟨hin, hi1⟩ : i < x.toNatClampNeg ∧ x.toNatClampNeg - rest.length = i + 1 := by omega
    rw [← hi] at hr ⊢
    obtain ⟨⟨z, v, u⟩, a, -, -⟩ := mu_is s cA c0 x.toNatClampNeg y.toNatClampNeg i
    have hm := Nat.mul_le_mul_right y.toNatClampNeg (show i + 1 ≤ x.toNatClampNeg from hin)
    rw [Nat.succ_mul] at hm
    simp only [wp_bind']
    refine mu_in (by rw [v]; exact hk) hki hy (hl _ hy4).1 (hl _ hy4).2 (by omega) (by omega) fun acts'' => ?_
    simp only [wp_bind', W.writeLoc, wp_pure']
    have hlt : s.heap.size < (mu_s s cA c0 x.toNatClampNeg y.toNatClampNeg i).heap.size := by rw [z]; omega
    refine ⟨_, (State.heap_pushCell_of_lt _ _ hlt).trans a, by simp [arrV], by rw [arrV_size]; exact hin, ?_, hnext _ _ _ ⟨by omega, by rw [hi1]; exact hr, ?_⟩⟩
    · simp [arrV, State.fitsSlot, State.slotType?, v, hA, hAi]
      rfl
    · rw [hi1, z, arrV_store, mu_f_next]
      rfl
  · rintro S d' acts' ⟨-, -, rfl⟩
    simp only [wp_pure']
    exact hq _ _
end MUW
/-- an array of int arrays, and these -/
def i_mul2 (n kd : Nat) (RC RS : Nat) : ri_S := fun k U V L st h => match st with
  | .int y :: .int x :: r => ¬ x < 0 ∧ ¬ y < 0 ∧ bif Nat.ble (x.toNatClampNeg * 4) 536870912 && (Nat.ble (y.toNatClampNeg * 4) 536870912 && (Nat.ble (U + (1 + x.toNatClampNeg)) RC && Nat.ble (V + (x.toNatClampNeg + x.toNatClampNeg * y.toNatClampNeg)) RS)) then k n (U + 1 + x.toNatClampNeg) (V + x.toNatClampNeg + x.toNatClampNeg * y.toNatClampNeg) L (.ref (16 + h.length) :: r) (h ++ (.inl (kd, x.toNatClampNeg, .inr (fun j => bif Nat.blt j x.toNatClampNeg then some (16 + h.length + 1 + j) else none)) :: List.replicate x.toNatClampNeg (.inl (0, y.toNatClampNeg, .inl (fun _ => 0))))) else False
  | _ => False
section RIM
variable {p : Program} {l : Launch} {e : Env} {R : Room} {s : State} {m : MethodId} {args : Array Value} {below : List Frame} {meth : Method} {c : Code} {Q : State → Prop} {cc : ByteArray} {nL : Nat} {Ts : List Cond} {own : String} {D : va_G} {ka : Nat → ClassId} {sa : Nat → Nat} {base : Nat} {pf : Nat → Nat} {i n t : Nat}
theorem mu_stand {T : State} {locs : List Loc} {cells slots : Nat} (X : Stand p l e R s m args below meth c T locs cells slots) (cA c0 : ClassId) (N M i : Nat) : Stand p l e R s m args below meth c (mu_s T cA c0 N M i) (locs ++ (List.range i).map fun j => ⟨T.heap.size, j⟩) (cells + 1 + i) (slots + N + i * M) := by
  induction i with
  | zero =>
    have h := X.pushed (arrV cA N (mu_f T.heap.size 0))
    rw [arrV_size] at h
    rw [Nat.zero_mul]
    simpa [mu_s] using h
  | succ i ih =>
    obtain ⟨⟨z, -, -⟩, a, -, -⟩ := mu_is T cA c0 N M i
    have hlt : T.heap.size < (mu_s T cA c0 N M i).heap.size := by rw [z]; omega
    have h := (ih.pushed (arrV c0 M (fun _ => .int 0))).stored ((State.heap_pushCell_of_lt _ _ hlt).trans a) i (.ref (T.heap.size + 1 + i))
    rw [arrV_size, arrV_store, mu_f_next, List.append_assoc] at h
    rw [List.range_succ, List.map_append, Nat.succ_mul, ← Nat.add_assoc (slots + N)]
    exact h
/-- the step -/
theorem mu_step {S : State} {locs : List Loc} {cells slots ix : Nat} (XS : Stand p l e R s m args below meth c S locs cells slots) (hexec : p.tables.exec = Jvm.exec) (hown : s.vm.findClass own = some m.cls) (hcl : (Cond.classLink own ix "[[I").before args s = true) {c0 cA cc : ClassId} {kA k0 : Class} (hcA : s.vm.findClass "[[I" = some cA) (hA : s.vm.classes[cA]? = some kA) (hAi : kA.kind = .array c0 (.array .int)) (h0 : s.vm.classes[c0]? = some k0) (h0i : k0.kind = .array cc .int) {g : JFrame} (hg : g.method = m) (hd : decode c.code g.pc = .ok (.multianewarray ix 2, 4)) {x y : Int32} {rest : List Value} (hst : g.stack = .int y :: .int x :: rest) (hx : ¬ x < 0) (hy : ¬ y < 0) (hx4 : x.toNatClampNeg * 4 ≤ 536870912) (hy4 : y.toNatClampNeg * 4 ≤ 536870912) (h1 : cells + (1 + x.toNatClampNeg) ≤ R.cells) (h2 : slots + (x.toNatClampNeg + x.toNatClampNeg * y.toNatClampNeg) ≤ R.slots) :
    ∃ vm₁ : Vm, s.WarmedH vm₁ ∧ ∀ t, Steps p.tables e below ((mu_s (S.setVm vm₁) cA c0 x.toNatClampNeg y.toNatClampNeg x.toNatClampNeg).setTop { g with pc := g.pc + 4, stack := .ref S.heap.size :: rest }) t → Steps p.tables e below (S.setTop g) t := by
  subst hg
  obtain ⟨c1, hc1, hln⟩ := Cond.classLink_spec hown hcl e.platform (by rw [XS.admits.platform])
  obtain rfl : cA = c1 := Option.some.inj (hcA.symm.trans hc1)
  obtain ⟨hgv, hwm, -⟩ := State.classEntry (e := e) XS.warmed hln
  refine ⟨_, hwm, fun t ht => ?_⟩
  generalize S.vm.noted g.method.cls ix (.cls cA) = vm₁ at hgv hwm ht
  obtain ⟨kA', hA', eA⟩ := hwm.alike.2.2 _ _ hA
  obtain ⟨k0', h0', e0⟩ := hwm.alike.2.2 _ _ h0
  obtain ⟨r1, r2⟩ := XS.roomAbove h1 h2
  have hlim : ∀ n : Nat, n * 4 ≤ 536870912 → ¬ n > e.platform.arrayLengthLimit ∧ ¬ n * 4 > e.platform.maxHeapBytes := by
    intro n hn
    rw [Launch.admits_arrayLengthLimit XS.admits, Launch.admits_maxHeapBytes XS.admits]
    omega
  have XF := mu_stand (XS.noted hwm) cA c0 x.toNatClampNeg y.toNatClampNeg x.toNatClampNeg
  jvm_step XS.here [hexec, hd]
  simp only [multianewarray.sem, wp_bind', W.resolveClassAt_links (State.method?_setTop g XS.here.top) hgv]
  refine (Jvm.Op.popN_top (s := S.setVm vm₁) (f := g) (args := [.int x, .int y]) (rest := rest) XS.here.top hst).mpr ?_
  simp only [List.mapM_cons, List.mapM_nil, wp_bind', wp_pure']
  refine mu_out (s := (S.setVm vm₁).setTop { g with stack := rest }) (cA := cA) (c0 := c0) (kA := kA') (k0 := k0') (cc := cc) hA' (by rw [eA]; exact hAi) h0' (by rw [e0]; exact h0i) hx hy hlim hx4 hy4 r1 r2 fun d' acts' => ?_
  rw [mu_top]
  simp only [wp_bind', W.mark, W.pushRef, State.topJava?_setTop' _ XF.here.top, Option.some.injEq, exists_eq_left', State.setTop_setTop, State.heap_setTop]
  intro acts2
  simp [jvm, XF.here.top]
  exact ht
theorem s_multi (X : ri_X p s m args c cc nL Ts own D ka sa base) {ix : Nat} (hcl : Cond.classLink own ix "[[I" ∈ Ts) (harr : Cond.arrayClass .int ∈ Ts) (hd : decode cc (pf i) = .ok (.multianewarray ix 2, 4)) (hn : pf n = pf i + 4) : ri_snd (ri_W p l e R s m args below meth c D ka sa base nL Q pf) i (i_mul2 n 3 R.cells R.slots) := by
  intro k hk U V L st h hf
  unfold i_mul2 at hf
  split at hf
  · rename_i y x r
    obtain ⟨hx, hy, hf⟩ := hf
    replace hf := ri_bif hf; obtain ⟨hB, hf⟩ := hf
    replace hB := ri_and hB; obtain ⟨h0, hB⟩ := hB
    replace hB := ri_and hB; obtain ⟨h1, hB⟩ := hB
    obtain ⟨h2, h3⟩ := ri_and hB
    have h0 := Nat.le_of_ble_eq_true h0
    have h1 := Nat.le_of_ble_eq_true h1
    have h2 := Nat.le_of_ble_eq_true h2
    have h3 := Nat.le_of_ble_eq_true h3
    intro H locs ls hH hS hl
    intro S hT XS
    obtain ⟨co, cA, kA, hco, hkA, hkAi, hfA⟩ := mu_over (s := s) X.2.2.2.2.2.2.2.1.2
    obtain ⟨c0, k0, cc0, hfC, hk0, hk0i⟩ := Cond.arrayClass_spec (X.2.2.2.2.1 _ harr)
    obtain rfl : co = c0 := Option.some.inj (hco.symm.trans hfC)
    have hka : cA = ka 3 := Option.some.inj (hfA.symm.trans (X.2.2.2.2.2.1.2 3 _ (ri_tys_get (k := 3) rfl)).2)
    have hkb : co = ka 0 := Option.some.inj (hfC.symm.trans (X.2.2.2.2.2.1.2 0 _ (ri_tys_get (k := 0) rfl)).2)
    subst hka hkb
    obtain ⟨vm₁, hwm, step⟩ := mu_step (own := own) (ix := ix) (g := F0 m (pf i) ls (.int y :: .int x :: r.map (ri_v sa base))) (x := x) (y := y) (rest := r.map (ri_v sa base)) XS X.1 X.2.2.2.1 (X.2.2.2.2.1 _ hcl) hfA hkA hkAi hk0 hk0i rfl (by rw [X.2.1]; exact hd) rfl hx hy h0 h1 h2 h3
    have X1 := mu_stand (XS.noted hwm) (ka 3) (ka 0) x.toNatClampNeg y.toNatClampNeg x.toNatClampNeg
    have hsz : (S.setVm vm₁).heap.size = base + h.length := by
      show S.heap.size = _
      rw [hT]; exact hH.2
    obtain ⟨⟨f1, -, -⟩, f2, f4, f3⟩ := mu_is (S.setVm vm₁) (ka 3) (ka 0) x.toNatClampNeg y.toNatClampNeg x.toNatClampNeg
    rw [hsz] at f1 f2
    have hle : s.heap.size ≤ base + h.length := by rw [← hH.2]; exact hS.1
    have hHn : ri_H D ka sa base (h ++ (.inl (3, x.toNatClampNeg, .inr (fun j => bif Nat.blt j x.toNatClampNeg then some (16 + h.length + 1 + j) else none)) :: List.replicate x.toNatClampNeg (.inl (0, y.toNatClampNeg, .inl (fun _ => 0))))) (mu_s (S.setVm vm₁) (ka 3) (ka 0) x.toNatClampNeg y.toNatClampNeg x.toNatClampNeg).heap := by
      refine ⟨fun q w hq => ?_, ?_⟩
      · rw [ri_w, List.getElem?_mapIdx, Option.map_eq_some_iff] at hq
        obtain ⟨ec, hec, rfl⟩ := hq
        rcases Nat.lt_trichotomy q h.length with hlt | heq | hgt
        · rw [List.getElem?_append_left hlt] at hec
          refine (hH.1 q _ (ri_w_get hec)).kept ?_
          rw [f4 (base + q) (by rw [hsz]; exact Nat.add_lt_add_left hlt base)]
          show S.heap[base + q]? = _
          rw [hT]
        · rw [heq, List.getElem?_append_right (Nat.le_refl _), Nat.sub_self] at hec
          cases hec
          rw [heq]
          show _ = some (vp_cell (ka 3) (x.toNatClampNeg, .inr (.inr (.inr (.inr (fun j => (bif Nat.blt j x.toNatClampNeg then some (16 + h.length + 1 + j) else none).map (ri_ad sa base)))))))
          rw [f2, vp_cell_q]
          refine congrArg some (congrArg (arrV (ka 3) x.toNatClampNeg) (funext fun j => ?_))
          by_cases hj : j < x.toNatClampNeg
          · rw [mu_f, if_pos hj, show Nat.blt j x.toNatClampNeg = true from Nat.ble_eq_true_of_le hj]
            show _ = va_rf (some (ri_ad sa base (16 + h.length + 1 + j)))
            rw [show 16 + h.length + 1 + j = 16 + (h.length + 1 + j) by omega, ri_ad_new]
            show Value.ref (base + h.length + 1 + j) = Value.ref (base + (h.length + 1 + j))
            rw [show base + h.length + 1 + j = base + (h.length + 1 + j) by omega]
          · have hbf : Nat.blt j x.toNatClampNeg = false := Bool.eq_false_iff.mpr (fun q => hj (Nat.le_of_ble_eq_true q))
            rw [mu_f, if_neg hj, hbf]; rfl
        · obtain ⟨j, hj⟩ : ∃ j, q = h.length + 1 + j := ⟨q - h.length - 1, by omega⟩
          subst hj
          rw [List.getElem?_append_right (by omega), show h.length + 1 + j - h.length = j + 1 by omega, List.getElem?_cons_succ] at hec
          obtain ⟨hjl, hje⟩ := List.getElem?_eq_some_iff.mp hec
          rw [List.length_replicate] at hjl
          rw [List.getElem_replicate] at hje
          subst hje
          show _ = some (vp_cell (ka 0) (y.toNatClampNeg, .inl (fun _ => 0)))
          rw [vp_cell_i]
          have := f3 j hjl
          rw [hsz] at this
          rw [show base + (h.length + 1 + j) = base + h.length + 1 + j by omega]
          exact this
      · rw [f1, List.length_append, List.length_cons, List.length_replicate]; omega
    have hSn : va_S (fun q => base ≤ q) s.heap (mu_s (S.setVm vm₁) (ka 3) (ka 0) x.toNatClampNeg y.toNatClampNeg x.toNatClampNeg).heap (locs ++ (List.range x.toNatClampNeg).map fun j => ⟨S.heap.size, j⟩) := by
      refine ⟨?_, fun q h1 h2 => ?_, fun lo hlo => ?_⟩
      · rw [f1]
        exact Nat.le_trans hle (by omega)
      · rw [f4 q (by rw [hsz]; exact Nat.lt_of_lt_of_le h1 hle)]
        show S.heap[q]? = _
        rw [hT]; exact hS.2.1 q h1 h2
      · rcases List.mem_append.mp hlo with hlo | hlo
        · exact hS.2.2 lo hlo
        · obtain ⟨j, -, rfl⟩ := List.mem_map.mp hlo
          show base ≤ S.heap.size
          rw [hT, hH.2]; omega
    have hw := hk _ _ _ _ _ _ hf _ _ ls hHn hSn hl
    rw [hn] at hw
    obtain ⟨t', a, b⟩ := hw _ rfl X1
    refine ⟨t', step t' ?_, b⟩
    have er : S.heap.size = ri_ad sa base (16 + h.length) := by rw [ri_ad_new, hT, hH.2]
    rw [er]
    exact a
  · exact hf.elim
end RIM
end
