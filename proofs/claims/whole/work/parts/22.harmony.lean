theorem d1_init_0 : decode c1_init 0 = .ok (.aload_n 0, 1) := by decide +kernel
theorem d1_init_1 : decode c1_init 1 = .ok (.invokespecial 3, 3) := by decide +kernel
theorem d1_init_4 : decode c1_init 4 = .ok (.aload_n 0, 1) := by decide +kernel
theorem d1_init_5 : decode c1_init 5 = .ok (.bipush 64, 2) := by decide +kernel
theorem d1_init_7 : decode c1_init 7 = .ok (.newarray .int, 2) := by decide +kernel
theorem d1_init_9 : decode c1_init 9 = .ok (.putfield 11, 3) := by decide +kernel
theorem d1_init_12 : decode c1_init 12 = .ok (.aload_n 0, 1) := by decide +kernel
theorem d1_init_13 : decode c1_init 13 = .ok (.bipush 48, 2) := by decide +kernel
theorem d1_init_15 : decode c1_init 15 = .ok (.newarray .int, 2) := by decide +kernel
theorem d1_init_17 : decode c1_init 17 = .ok (.putfield 15, 3) := by decide +kernel
theorem d1_init_20 : decode c1_init 20 = .ok (.aload_n 0, 1) := by decide +kernel
theorem d1_init_21 : decode c1_init 21 = .ok (.bipush 12, 2) := by decide +kernel
theorem d1_init_23 : decode c1_init 23 = .ok (.newarray .int, 2) := by decide +kernel
theorem d1_init_25 : decode c1_init 25 = .ok (.putfield 18, 3) := by decide +kernel
theorem d1_init_28 : decode c1_init 28 = .ok (.aload_n 0, 1) := by decide +kernel
theorem d1_init_29 : decode c1_init 29 = .ok (.sipush 256, 3) := by decide +kernel
theorem d1_init_32 : decode c1_init 32 = .ok (.newarray .int, 2) := by decide +kernel
theorem d1_init_34 : decode c1_init 34 = .ok (.putfield 21, 3) := by decide +kernel
theorem d1_init_37 : decode c1_init 37 = .ok (.iconst 0, 1) := by decide +kernel
theorem d1_init_38 : decode c1_init 38 = .ok (.istore_n 1, 1) := by decide +kernel
theorem d1_init_39 : decode c1_init 39 = .ok (.iload_n 1, 1) := by decide +kernel
theorem d1_init_40 : decode c1_init 40 = .ok (.bipush 13, 2) := by decide +kernel
theorem d1_init_42 : decode c1_init 42 = .ok (.if_icmp .ge 39, 3) := by decide +kernel
theorem d1_init_45 : decode c1_init 45 = .ok (.iconst 0, 1) := by decide +kernel
theorem d1_init_46 : decode c1_init 46 = .ok (.istore_n 2, 1) := by decide +kernel
theorem d1_init_47 : decode c1_init 47 = .ok (.iload_n 2, 1) := by decide +kernel
theorem d1_init_48 : decode c1_init 48 = .ok (.bipush 13, 2) := by decide +kernel
theorem d1_init_50 : decode c1_init 50 = .ok (.if_icmp .ge 25, 3) := by decide +kernel
theorem d1_init_53 : decode c1_init 53 = .ok (.aload_n 0, 1) := by decide +kernel
theorem d1_init_54 : decode c1_init 54 = .ok (.getfield 21, 3) := by decide +kernel
theorem d1_init_57 : decode c1_init 57 = .ok (.iload_n 1, 1) := by decide +kernel
theorem d1_init_58 : decode c1_init 58 = .ok (.bipush 16, 2) := by decide +kernel
theorem d1_init_60 : decode c1_init 60 = .ok (.imul, 1) := by decide +kernel
theorem d1_init_61 : decode c1_init 61 = .ok (.iload_n 2, 1) := by decide +kernel
theorem d1_init_62 : decode c1_init 62 = .ok (.iadd, 1) := by decide +kernel
theorem d1_init_63 : decode c1_init 63 = .ok (.iload_n 1, 1) := by decide +kernel
theorem d1_init_64 : decode c1_init 64 = .ok (.iload_n 2, 1) := by decide +kernel
theorem d1_init_65 : decode c1_init 65 = .ok (.invokestatic 24, 3) := by decide +kernel
theorem d1_init_68 : decode c1_init 68 = .ok (.iastore, 1) := by decide +kernel
theorem d1_init_69 : decode c1_init 69 = .ok (.iinc 2 1, 3) := by decide +kernel
theorem d1_init_72 : decode c1_init 72 = .ok (.goto (-25), 3) := by decide +kernel
theorem d1_init_75 : decode c1_init 75 = .ok (.iinc 1 1, 3) := by decide +kernel
theorem d1_init_78 : decode c1_init 78 = .ok (.goto (-39), 3) := by decide +kernel
theorem d1_init_81 : decode c1_init 81 = .ok (.aload_n 0, 1) := by decide +kernel
theorem d1_init_82 : decode c1_init 82 = .ok (.iconst 0, 1) := by decide +kernel
theorem d1_init_83 : decode c1_init 83 = .ok (.iconst 0, 1) := by decide +kernel
theorem d1_init_84 : decode c1_init 84 = .ok (.invokevirtual 28, 3) := by decide +kernel
theorem d1_init_87 : decode c1_init 87 = .ok (.return_, 1) := by decide +kernel
def t1_init (l : Launch) (Po : ri_O) : List ri_S := [i_al 1 0,
  i_oi 2 2 49,
  i_al 3 0,
  i_con 4 64,
  i_nwa 5 0 4 380,
  i_put 6 1 3 ri_isR,
  i_al 7 0,
  i_con 8 48,
  i_nwa 9 0 4 380,
  i_put 10 1 4 ri_isR,
  i_al 11 0,
  i_con 12 12,
  i_nwa 13 0 4 380,
  i_put 14 1 5 ri_isR,
  i_al 15 0,
  i_con 16 256,
  i_nwa 17 0 4 380,
  i_put 18 1 6 ri_isR,
  i_con 19 0,
  i_is 20 1,
  i_il 21 1,
  i_con 22 13,
  i_icmp 23 43 (fun x y => y ≤ x),
  i_con 24 0,
  i_is 25 2,
  i_il 26 2,
  i_con 27 13,
  i_icmp 28 41 (fun x y => y ≤ x),
  i_al 29 0,
  i_get 30 1 6,
  i_il 31 1,
  i_con 32 16,
  i_bin 33 (fun x y => x * y),
  i_il 34 2,
  i_bin 35 (fun x y => x + y),
  i_il 36 1,
  i_il 37 2,
  i_call 38 2 (ri_Ev l y1_grammar w1_grammar r1_grammar 0 0) 0 0 4 380,
  i_ast 39 0 (fun x => x),
  i_inc 40 2 1,
  i_goto 25,
  i_inc 42 1 1,
  i_goto 20,
  i_al 44 0,
  i_con 45 0,
  i_con 46 0,
  i_callV 47 3 1 (ri_Ev l y1_tune w1_tune r1_tune 0 0) 0 0 4 380,
  i_vret Po 4 380]
set_option maxRecDepth 20000 in
set_option maxHeartbeats 4000000 in
theorem z1_init (l : Launch) (Po : ri_O) (p : Program) (e : Env) (s : State) (m : MethodId) (args : Array Value) (below : List Frame) (meth : Method) (c : Code) (D : va_G) (ka : Nat → ClassId) (sa : Nat → Nat) (base : Nat) (X : ri_X p s m args c c1_init 3 w1_init "ChoraleSearch$Harmony" D ka sa base) (hret : meth.sig.returnType = none) (hlocks : meth.locks = false) (hname : meth.name = "<init>") : ri_clo (ri_W p l e r1_init s m args below meth c D ka sa base 3 (MQ below (ri_Qc D ka sa base Po) args s 4 380 (fun q => base ≤ q)) p1_init) (t1_init l Po) := by
  refine ri_clo_of ?_
  unfold t1_init
  exact ⟨s_aload_n X d1_init_0 rfl rfl,
    s_oi X (List.mem_cons_of_mem _ mgw_85) (List.mem_cons_of_mem _ mgw_22) (List.mem_cons_of_mem _ mgw_23) d1_init_1 rfl,
    s_aload_n X d1_init_4 rfl rfl,
    s_bipush X d1_init_5 rfl rfl,
    s_newi X rfl (List.mem_cons_of_mem _ mgw_78) d1_init_7 rfl,
    s_putF X (ci := 1) (f := 3) rfl (fun w h => List.mem_cons_of_mem _ (uC_1 w h)) (by decide) tC_1 oC_1 nC_1 rfl ri_ok_arr (List.mem_cons_of_mem _ mgw_122) hname rfl d1_init_9 rfl,
    s_aload_n X d1_init_12 rfl rfl,
    s_bipush X d1_init_13 rfl rfl,
    s_newi X rfl (List.mem_cons_of_mem _ mgw_78) d1_init_15 rfl,
    s_putF X (ci := 1) (f := 4) rfl (fun w h => List.mem_cons_of_mem _ (uC_1 w h)) (by decide) tC_1 oC_1 nC_1 rfl ri_ok_arr (List.mem_cons_of_mem _ mgw_123) hname rfl d1_init_17 rfl,
    s_aload_n X d1_init_20 rfl rfl,
    s_bipush X d1_init_21 rfl rfl,
    s_newi X rfl (List.mem_cons_of_mem _ mgw_78) d1_init_23 rfl,
    s_putF X (ci := 1) (f := 5) rfl (fun w h => List.mem_cons_of_mem _ (uC_1 w h)) (by decide) tC_1 oC_1 nC_1 rfl ri_ok_arr (List.mem_cons_of_mem _ mgw_124) hname rfl d1_init_25 rfl,
    s_aload_n X d1_init_28 rfl rfl,
    s_sipush X d1_init_29 rfl rfl,
    s_newi X rfl (List.mem_cons_of_mem _ mgw_78) d1_init_32 rfl,
    s_putF X (ci := 1) (f := 6) rfl (fun w h => List.mem_cons_of_mem _ (uC_1 w h)) (by decide) tC_1 oC_1 nC_1 rfl ri_ok_arr (List.mem_cons_of_mem _ mgw_125) hname rfl d1_init_34 rfl,
    s_iconst X d1_init_37 rfl rfl,
    s_istore_n X d1_init_38 rfl (by decide) rfl,
    s_iload_n X d1_init_39 rfl rfl,
    s_bipush X d1_init_40 rfl rfl,
    s_icmp_ge X d1_init_42 rfl rfl,
    s_iconst X d1_init_45 rfl rfl,
    s_istore_n X d1_init_46 rfl (by decide) rfl,
    s_iload_n X d1_init_47 rfl rfl,
    s_bipush X d1_init_48 rfl rfl,
    s_icmp_ge X d1_init_50 rfl rfl,
    s_aload_n X d1_init_53 rfl rfl,
    s_get X (ci := 1) (f := 6) rfl (fun w h => List.mem_cons_of_mem _ (uC_1 w h)) (by decide) (List.mem_cons_of_mem _ mgw_125) d1_init_54 rfl,
    s_iload_n X d1_init_57 rfl rfl,
    s_bipush X d1_init_58 rfl rfl,
    s_imul X d1_init_60 rfl,
    s_iload_n X d1_init_61 rfl rfl,
    s_iadd X d1_init_62 rfl,
    s_iload_n X d1_init_63 rfl rfl,
    s_iload_n X d1_init_64 rfl rfl,
    s_callS ri_NW_ok X ⟨ri_cB X 2 mgw_88 (List.mem_cons_of_mem _ mgw_3) (List.mem_cons_of_mem _ mgw_86) (by decide +kernel) rfl rfl ⟨by decide, by decide⟩, X.2.2.2.2.1 _ (List.mem_cons_of_mem _ mgw_87)⟩ d1_init_65 rfl,
    s_iast X rfl d1_init_68 rfl,
    s_iinc X d1_init_69 rfl (by decide) rfl,
    s_goto X d1_init_72 rfl,
    s_iinc X d1_init_75 rfl (by decide) rfl,
    s_goto X d1_init_78 rfl,
    s_aload_n X d1_init_81 rfl rfl,
    s_iconst X d1_init_82 rfl rfl,
    s_iconst X d1_init_83 rfl rfl,
    s_callV ri_NW_ok X (na := 2) (ci := 1) rfl ⟨ri_cB X 2 mgw_103 (List.mem_cons_of_mem _ mgw_3) (List.mem_cons_of_mem _ mgw_100) (by decide +kernel) rfl rfl ⟨by decide, by decide⟩, X.2.2.2.2.1 _ (List.mem_cons_of_mem _ mgw_102), X.2.2.2.2.1 _ (List.mem_cons_of_mem _ mgp_1)⟩ d1_init_84 rfl,
    s_vret X hret hlocks d1_init_87, trivial⟩
theorem d1_grammar_0 : decode c1_grammar 0 = .ok (.iload_n 0, 1) := by decide +kernel
theorem d1_grammar_1 : decode c1_grammar 1 = .ok (.iload_n 1, 1) := by decide +kernel
theorem d1_grammar_2 : decode c1_grammar 2 = .ok (.if_icmp .ne 5, 3) := by decide +kernel
theorem d1_grammar_5 : decode c1_grammar 5 = .ok (.iconst 3, 1) := by decide +kernel
theorem d1_grammar_6 : decode c1_grammar 6 = .ok (.ireturn, 1) := by decide +kernel
theorem d1_grammar_7 : decode c1_grammar 7 = .ok (.getstatic 57, 3) := by decide +kernel
theorem d1_grammar_10 : decode c1_grammar 10 = .ok (.iload_n 0, 1) := by decide +kernel
theorem d1_grammar_11 : decode c1_grammar 11 = .ok (.iaload, 1) := by decide +kernel
theorem d1_grammar_12 : decode c1_grammar 12 = .ok (.tableswitch 54 0 2 #[28, 42, 48], 28) := by decide +kernel
theorem d1_grammar_40 : decode c1_grammar 40 = .ok (.getstatic 57, 3) := by decide +kernel
theorem d1_grammar_43 : decode c1_grammar 43 = .ok (.iload_n 1, 1) := by decide +kernel
theorem d1_grammar_44 : decode c1_grammar 44 = .ok (.iaload, 1) := by decide +kernel
theorem d1_grammar_45 : decode c1_grammar 45 = .ok (.ifCond .ne 7, 3) := by decide +kernel
theorem d1_grammar_48 : decode c1_grammar 48 = .ok (.iconst 2, 1) := by decide +kernel
theorem d1_grammar_49 : decode c1_grammar 49 = .ok (.goto 4, 3) := by decide +kernel
theorem d1_grammar_52 : decode c1_grammar 52 = .ok (.iconst 0, 1) := by decide +kernel
theorem d1_grammar_53 : decode c1_grammar 53 = .ok (.ireturn, 1) := by decide +kernel
theorem d1_grammar_54 : decode c1_grammar 54 = .ok (.iload_n 0, 1) := by decide +kernel
theorem d1_grammar_55 : decode c1_grammar 55 = .ok (.iload_n 1, 1) := by decide +kernel
theorem d1_grammar_56 : decode c1_grammar 56 = .ok (.invokestatic 60, 3) := by decide +kernel
theorem d1_grammar_59 : decode c1_grammar 59 = .ok (.ireturn, 1) := by decide +kernel
theorem d1_grammar_60 : decode c1_grammar 60 = .ok (.iload_n 0, 1) := by decide +kernel
theorem d1_grammar_61 : decode c1_grammar 61 = .ok (.iload_n 1, 1) := by decide +kernel
theorem d1_grammar_62 : decode c1_grammar 62 = .ok (.invokestatic 63, 3) := by decide +kernel
theorem d1_grammar_65 : decode c1_grammar 65 = .ok (.ireturn, 1) := by decide +kernel
theorem d1_grammar_66 : decode c1_grammar 66 = .ok (.iload_n 0, 1) := by decide +kernel
theorem d1_grammar_67 : decode c1_grammar 67 = .ok (.iload_n 1, 1) := by decide +kernel
theorem d1_grammar_68 : decode c1_grammar 68 = .ok (.invokestatic 66, 3) := by decide +kernel
theorem d1_grammar_71 : decode c1_grammar 71 = .ok (.ireturn, 1) := by decide +kernel
def t1_grammar (l : Launch) (Po : ri_O) : List ri_S := [i_il 1 0,
  i_il 2 1,
  i_icmp 3 5 (fun x y => ¬ x = y),
  i_con 4 3,
  i_ret Po 0 0,
  i_gets 6 0,
  i_il 7 0,
  i_ald 8 0,
  i_sw [(0, 9), (1, 17), (2, 21)] 25,
  i_gets 10 0,
  i_il 11 1,
  i_ald 12 0,
  i_if 13 15 (fun x => ¬ x = 0),
  i_con 14 2,
  i_goto 16,
  i_con 16 0,
  i_ret Po 0 0,
  i_il 18 0,
  i_il 19 1,
  i_call 20 2 (ri_Ev l y1_fromSubdominant w1_fromSubdominant r1_fromSubdominant 0 0) 0 0 0 0,
  i_ret Po 0 0,
  i_il 22 0,
  i_il 23 1,
  i_call 24 2 (ri_Ev l y1_fromDominant w1_fromDominant r1_fromDominant 0 0) 0 0 0 0,
  i_ret Po 0 0,
  i_il 26 0,
  i_il 27 1,
  i_call 28 2 (ri_Ev l y1_fromApplied w1_fromApplied r1_fromApplied 0 0) 0 0 0 0,
  i_ret Po 0 0]
set_option maxRecDepth 20000 in
set_option maxHeartbeats 4000000 in
theorem z1_grammar (l : Launch) (Po : ri_O) (p : Program) (e : Env) (s : State) (m : MethodId) (args : Array Value) (below : List Frame) (meth : Method) (c : Code) (D : va_G) (ka : Nat → ClassId) (sa : Nat → Nat) (base : Nat) (X : ri_X p s m args c c1_grammar 2 w1_grammar "ChoraleSearch$Harmony" D ka sa base) (hret : meth.sig.returnType = (some .int)) (hlocks : meth.locks = false) (hname : meth.name = "grammar") : ri_clo (ri_W p l e r1_grammar s m args below meth c D ka sa base 2 (MQ below (ri_Qc D ka sa base Po) args s 0 0 (fun q => base ≤ q)) p1_grammar) (t1_grammar l Po) := by
  refine ri_clo_of ?_
  unfold t1_grammar
  exact ⟨s_iload_n X d1_grammar_0 rfl rfl,
    s_iload_n X d1_grammar_1 rfl rfl,
    s_icmp_ne X d1_grammar_2 rfl rfl,
    s_iconst X d1_grammar_5 rfl rfl,
    s_iret X hret hlocks d1_grammar_6,
    s_gets X (q := 0) rfl rfl (List.mem_cons_of_mem _ mgw_89) d1_grammar_7 rfl,
    s_iload_n X d1_grammar_10 rfl rfl,
    s_iald X rfl d1_grammar_11 rfl,
    s_tsw X d1_grammar_12 rfl (by decide) (by decide) (by decide),
    s_gets X (q := 0) rfl rfl (List.mem_cons_of_mem _ mgw_89) d1_grammar_40 rfl,
    s_iload_n X d1_grammar_43 rfl rfl,
    s_iald X rfl d1_grammar_44 rfl,
    s_if_ne X d1_grammar_45 rfl rfl,
    s_iconst X d1_grammar_48 rfl rfl,
    s_goto X d1_grammar_49 rfl,
    s_iconst X d1_grammar_52 rfl rfl,
    s_iret X hret hlocks d1_grammar_53,
    s_iload_n X d1_grammar_54 rfl rfl,
    s_iload_n X d1_grammar_55 rfl rfl,
    s_callS ri_NW_ok X ⟨ri_cB X 2 mgw_93 (List.mem_cons_of_mem _ mgw_3) (List.mem_cons_of_mem _ mgw_91) (by decide +kernel) rfl rfl ⟨by decide, by decide⟩, X.2.2.2.2.1 _ (List.mem_cons_of_mem _ mgw_92)⟩ d1_grammar_56 rfl,
    s_iret X hret hlocks d1_grammar_59,
    s_iload_n X d1_grammar_60 rfl rfl,
    s_iload_n X d1_grammar_61 rfl rfl,
    s_callS ri_NW_ok X ⟨ri_cB X 2 mgw_96 (List.mem_cons_of_mem _ mgw_3) (List.mem_cons_of_mem _ mgw_94) (by decide +kernel) rfl rfl ⟨by decide, by decide⟩, X.2.2.2.2.1 _ (List.mem_cons_of_mem _ mgw_95)⟩ d1_grammar_62 rfl,
    s_iret X hret hlocks d1_grammar_65,
    s_iload_n X d1_grammar_66 rfl rfl,
    s_iload_n X d1_grammar_67 rfl rfl,
    s_callS ri_NW_ok X ⟨ri_cB X 2 mgw_99 (List.mem_cons_of_mem _ mgw_3) (List.mem_cons_of_mem _ mgw_97) (by decide +kernel) rfl rfl ⟨by decide, by decide⟩, X.2.2.2.2.1 _ (List.mem_cons_of_mem _ mgw_98)⟩ d1_grammar_68 rfl,
    s_iret X hret hlocks d1_grammar_71, trivial⟩
theorem d1_fromSubdominant_0 : decode c1_fromSubdominant 0 = .ok (.getstatic 57, 3) := by decide +kernel
theorem d1_fromSubdominant_3 : decode c1_fromSubdominant 3 = .ok (.iload_n 1, 1) := by decide +kernel
theorem d1_fromSubdominant_4 : decode c1_fromSubdominant 4 = .ok (.iaload, 1) := by decide +kernel
theorem d1_fromSubdominant_5 : decode c1_fromSubdominant 5 = .ok (.tableswitch 46 0 2 #[27, 42, 44], 27) := by decide +kernel
theorem d1_fromSubdominant_32 : decode c1_fromSubdominant 32 = .ok (.iload_n 0, 1) := by decide +kernel
theorem d1_fromSubdominant_33 : decode c1_fromSubdominant 33 = .ok (.iconst 3, 1) := by decide +kernel
theorem d1_fromSubdominant_34 : decode c1_fromSubdominant 34 = .ok (.if_icmp .ne 11, 3) := by decide +kernel
theorem d1_fromSubdominant_37 : decode c1_fromSubdominant 37 = .ok (.iload_n 1, 1) := by decide +kernel
theorem d1_fromSubdominant_38 : decode c1_fromSubdominant 38 = .ok (.ifCond .ne 7, 3) := by decide +kernel
theorem d1_fromSubdominant_41 : decode c1_fromSubdominant 41 = .ok (.iconst 2, 1) := by decide +kernel
theorem d1_fromSubdominant_42 : decode c1_fromSubdominant 42 = .ok (.goto 4, 3) := by decide +kernel
theorem d1_fromSubdominant_45 : decode c1_fromSubdominant 45 = .ok (.iconst 4, 1) := by decide +kernel
theorem d1_fromSubdominant_46 : decode c1_fromSubdominant 46 = .ok (.ireturn, 1) := by decide +kernel
theorem d1_fromSubdominant_47 : decode c1_fromSubdominant 47 = .ok (.iconst 2, 1) := by decide +kernel
theorem d1_fromSubdominant_48 : decode c1_fromSubdominant 48 = .ok (.ireturn, 1) := by decide +kernel
theorem d1_fromSubdominant_49 : decode c1_fromSubdominant 49 = .ok (.iconst 0, 1) := by decide +kernel
theorem d1_fromSubdominant_50 : decode c1_fromSubdominant 50 = .ok (.ireturn, 1) := by decide +kernel
theorem d1_fromSubdominant_51 : decode c1_fromSubdominant 51 = .ok (.iconst 1, 1) := by decide +kernel
theorem d1_fromSubdominant_52 : decode c1_fromSubdominant 52 = .ok (.ireturn, 1) := by decide +kernel
def t1_fromSubdominant (l : Launch) (Po : ri_O) : List ri_S := [i_gets 1 0,
  i_il 2 1,
  i_ald 3 0,
  i_sw [(0, 4), (1, 13), (2, 15)] 17,
  i_il 5 0,
  i_con 6 3,
  i_icmp 7 11 (fun x y => ¬ x = y),
  i_il 8 1,
  i_if 9 11 (fun x => ¬ x = 0),
  i_con 10 2,
  i_goto 12,
  i_con 12 4,
  i_ret Po 0 0,
  i_con 14 2,
  i_ret Po 0 0,
  i_con 16 0,
  i_ret Po 0 0,
  i_con 18 1,
  i_ret Po 0 0]
set_option maxRecDepth 20000 in
set_option maxHeartbeats 4000000 in
theorem z1_fromSubdominant (l : Launch) (Po : ri_O) (p : Program) (e : Env) (s : State) (m : MethodId) (args : Array Value) (below : List Frame) (meth : Method) (c : Code) (D : va_G) (ka : Nat → ClassId) (sa : Nat → Nat) (base : Nat) (X : ri_X p s m args c c1_fromSubdominant 2 w1_fromSubdominant "ChoraleSearch$Harmony" D ka sa base) (hret : meth.sig.returnType = (some .int)) (hlocks : meth.locks = false) (hname : meth.name = "fromSubdominant") : ri_clo (ri_W p l e r1_fromSubdominant s m args below meth c D ka sa base 2 (MQ below (ri_Qc D ka sa base Po) args s 0 0 (fun q => base ≤ q)) p1_fromSubdominant) (t1_fromSubdominant l Po) := by
  refine ri_clo_of ?_
  unfold t1_fromSubdominant
  exact ⟨s_gets X (q := 0) rfl rfl (List.mem_cons_of_mem _ mgw_89) d1_fromSubdominant_0 rfl,
    s_iload_n X d1_fromSubdominant_3 rfl rfl,
    s_iald X rfl d1_fromSubdominant_4 rfl,
    s_tsw X d1_fromSubdominant_5 rfl (by decide) (by decide) (by decide),
    s_iload_n X d1_fromSubdominant_32 rfl rfl,
    s_iconst X d1_fromSubdominant_33 rfl rfl,
    s_icmp_ne X d1_fromSubdominant_34 rfl rfl,
    s_iload_n X d1_fromSubdominant_37 rfl rfl,
    s_if_ne X d1_fromSubdominant_38 rfl rfl,
    s_iconst X d1_fromSubdominant_41 rfl rfl,
    s_goto X d1_fromSubdominant_42 rfl,
    s_iconst X d1_fromSubdominant_45 rfl rfl,
    s_iret X hret hlocks d1_fromSubdominant_46,
    s_iconst X d1_fromSubdominant_47 rfl rfl,
    s_iret X hret hlocks d1_fromSubdominant_48,
    s_iconst X d1_fromSubdominant_49 rfl rfl,
    s_iret X hret hlocks d1_fromSubdominant_50,
    s_iconst X d1_fromSubdominant_51 rfl rfl,
    s_iret X hret hlocks d1_fromSubdominant_52, trivial⟩
theorem d1_fromDominant_0 : decode c1_fromDominant 0 = .ok (.iload_n 1, 1) := by decide +kernel
theorem d1_fromDominant_1 : decode c1_fromDominant 1 = .ok (.tableswitch 85 0 12 #[67, 85, 85, 85, 71, 69, 71, 83, 85, 85, 85, 85, 69], 67) := by decide +kernel
theorem d1_fromDominant_68 : decode c1_fromDominant 68 = .ok (.iconst 0, 1) := by decide +kernel
theorem d1_fromDominant_69 : decode c1_fromDominant 69 = .ok (.ireturn, 1) := by decide +kernel
theorem d1_fromDominant_70 : decode c1_fromDominant 70 = .ok (.iconst 2, 1) := by decide +kernel
theorem d1_fromDominant_71 : decode c1_fromDominant 71 = .ok (.ireturn, 1) := by decide +kernel
theorem d1_fromDominant_72 : decode c1_fromDominant 72 = .ok (.iload_n 0, 1) := by decide +kernel
theorem d1_fromDominant_73 : decode c1_fromDominant 73 = .ok (.bipush 7, 2) := by decide +kernel
theorem d1_fromDominant_75 : decode c1_fromDominant 75 = .ok (.if_icmp .ne 7, 3) := by decide +kernel
theorem d1_fromDominant_78 : decode c1_fromDominant 78 = .ok (.iconst 3, 1) := by decide +kernel
theorem d1_fromDominant_79 : decode c1_fromDominant 79 = .ok (.goto 4, 3) := by decide +kernel
theorem d1_fromDominant_82 : decode c1_fromDominant 82 = .ok (.iconst 1, 1) := by decide +kernel
theorem d1_fromDominant_83 : decode c1_fromDominant 83 = .ok (.ireturn, 1) := by decide +kernel
theorem d1_fromDominant_84 : decode c1_fromDominant 84 = .ok (.iconst 1, 1) := by decide +kernel
theorem d1_fromDominant_85 : decode c1_fromDominant 85 = .ok (.ireturn, 1) := by decide +kernel
theorem d1_fromDominant_86 : decode c1_fromDominant 86 = .ok (.iconst (-1), 1) := by decide +kernel
theorem d1_fromDominant_87 : decode c1_fromDominant 87 = .ok (.ireturn, 1) := by decide +kernel
def t1_fromDominant (l : Launch) (Po : ri_O) : List ri_S := [i_il 1 1,
  i_sw [(0, 2), (4, 6), (5, 4), (6, 6), (7, 13), (12, 4)] 15,
  i_con 3 0,
  i_ret Po 0 0,
  i_con 5 2,
  i_ret Po 0 0,
  i_il 7 0,
  i_con 8 7,
  i_icmp 9 11 (fun x y => ¬ x = y),
  i_con 10 3,
  i_goto 12,
  i_con 12 1,
  i_ret Po 0 0,
  i_con 14 1,
  i_ret Po 0 0,
  i_con 16 (-1),
  i_ret Po 0 0]
set_option maxRecDepth 20000 in
set_option maxHeartbeats 4000000 in
theorem z1_fromDominant (l : Launch) (Po : ri_O) (p : Program) (e : Env) (s : State) (m : MethodId) (args : Array Value) (below : List Frame) (meth : Method) (c : Code) (D : va_G) (ka : Nat → ClassId) (sa : Nat → Nat) (base : Nat) (X : ri_X p s m args c c1_fromDominant 2 w1_fromDominant "ChoraleSearch$Harmony" D ka sa base) (hret : meth.sig.returnType = (some .int)) (hlocks : meth.locks = false) (hname : meth.name = "fromDominant") : ri_clo (ri_W p l e r1_fromDominant s m args below meth c D ka sa base 2 (MQ below (ri_Qc D ka sa base Po) args s 0 0 (fun q => base ≤ q)) p1_fromDominant) (t1_fromDominant l Po) := by
  refine ri_clo_of ?_
  unfold t1_fromDominant
  exact ⟨s_iload_n X d1_fromDominant_0 rfl rfl,
    s_tsw X d1_fromDominant_1 rfl (by decide) (by decide) (by decide),
    s_iconst X d1_fromDominant_68 rfl rfl,
    s_iret X hret hlocks d1_fromDominant_69,
    s_iconst X d1_fromDominant_70 rfl rfl,
    s_iret X hret hlocks d1_fromDominant_71,
    s_iload_n X d1_fromDominant_72 rfl rfl,
    s_bipush X d1_fromDominant_73 rfl rfl,
    s_icmp_ne X d1_fromDominant_75 rfl rfl,
    s_iconst X d1_fromDominant_78 rfl rfl,
    s_goto X d1_fromDominant_79 rfl,
    s_iconst X d1_fromDominant_82 rfl rfl,
    s_iret X hret hlocks d1_fromDominant_83,
    s_iconst X d1_fromDominant_84 rfl rfl,
    s_iret X hret hlocks d1_fromDominant_85,
    s_iconst X d1_fromDominant_86 rfl rfl,
    s_iret X hret hlocks d1_fromDominant_87, trivial⟩
theorem d1_fromApplied_0 : decode c1_fromApplied 0 = .ok (.iload_n 0, 1) := by decide +kernel
theorem d1_fromApplied_1 : decode c1_fromApplied 1 = .ok (.tableswitch 82 9 11 #[27, 54, 71], 27) := by decide +kernel
theorem d1_fromApplied_28 : decode c1_fromApplied 28 = .ok (.iload_n 1, 1) := by decide +kernel
theorem d1_fromApplied_29 : decode c1_fromApplied 29 = .ok (.bipush 10, 2) := by decide +kernel
theorem d1_fromApplied_31 : decode c1_fromApplied 31 = .ok (.if_icmp .ne 7, 3) := by decide +kernel
theorem d1_fromApplied_34 : decode c1_fromApplied 34 = .ok (.iconst 1, 1) := by decide +kernel
theorem d1_fromApplied_35 : decode c1_fromApplied 35 = .ok (.goto 19, 3) := by decide +kernel
theorem d1_fromApplied_38 : decode c1_fromApplied 38 = .ok (.iload_n 1, 1) := by decide +kernel
theorem d1_fromApplied_39 : decode c1_fromApplied 39 = .ok (.iconst 4, 1) := by decide +kernel
theorem d1_fromApplied_40 : decode c1_fromApplied 40 = .ok (.if_icmp .eq 9, 3) := by decide +kernel
theorem d1_fromApplied_43 : decode c1_fromApplied 43 = .ok (.iload_n 1, 1) := by decide +kernel
theorem d1_fromApplied_44 : decode c1_fromApplied 44 = .ok (.bipush 7, 2) := by decide +kernel
theorem d1_fromApplied_46 : decode c1_fromApplied 46 = .ok (.if_icmp .ne 7, 3) := by decide +kernel
theorem d1_fromApplied_49 : decode c1_fromApplied 49 = .ok (.iconst 0, 1) := by decide +kernel
theorem d1_fromApplied_50 : decode c1_fromApplied 50 = .ok (.goto 4, 3) := by decide +kernel
theorem d1_fromApplied_53 : decode c1_fromApplied 53 = .ok (.iconst (-1), 1) := by decide +kernel
theorem d1_fromApplied_54 : decode c1_fromApplied 54 = .ok (.ireturn, 1) := by decide +kernel
theorem d1_fromApplied_55 : decode c1_fromApplied 55 = .ok (.iload_n 1, 1) := by decide +kernel
theorem d1_fromApplied_56 : decode c1_fromApplied 56 = .ok (.iconst 4, 1) := by decide +kernel
theorem d1_fromApplied_57 : decode c1_fromApplied 57 = .ok (.if_icmp .eq 9, 3) := by decide +kernel
theorem d1_fromApplied_60 : decode c1_fromApplied 60 = .ok (.iload_n 1, 1) := by decide +kernel
theorem d1_fromApplied_61 : decode c1_fromApplied 61 = .ok (.bipush 7, 2) := by decide +kernel
theorem d1_fromApplied_63 : decode c1_fromApplied 63 = .ok (.if_icmp .ne 7, 3) := by decide +kernel
theorem d1_fromApplied_66 : decode c1_fromApplied 66 = .ok (.iconst 0, 1) := by decide +kernel
theorem d1_fromApplied_67 : decode c1_fromApplied 67 = .ok (.goto 4, 3) := by decide +kernel
theorem d1_fromApplied_70 : decode c1_fromApplied 70 = .ok (.iconst (-1), 1) := by decide +kernel
theorem d1_fromApplied_71 : decode c1_fromApplied 71 = .ok (.ireturn, 1) := by decide +kernel
theorem d1_fromApplied_72 : decode c1_fromApplied 72 = .ok (.iload_n 1, 1) := by decide +kernel
theorem d1_fromApplied_73 : decode c1_fromApplied 73 = .ok (.iconst 5, 1) := by decide +kernel
theorem d1_fromApplied_74 : decode c1_fromApplied 74 = .ok (.if_icmp .ne 7, 3) := by decide +kernel
theorem d1_fromApplied_77 : decode c1_fromApplied 77 = .ok (.iconst 0, 1) := by decide +kernel
theorem d1_fromApplied_78 : decode c1_fromApplied 78 = .ok (.goto 4, 3) := by decide +kernel
theorem d1_fromApplied_81 : decode c1_fromApplied 81 = .ok (.iconst (-1), 1) := by decide +kernel
theorem d1_fromApplied_82 : decode c1_fromApplied 82 = .ok (.ireturn, 1) := by decide +kernel
theorem d1_fromApplied_83 : decode c1_fromApplied 83 = .ok (.iload_n 1, 1) := by decide +kernel
theorem d1_fromApplied_84 : decode c1_fromApplied 84 = .ok (.iconst 3, 1) := by decide +kernel
theorem d1_fromApplied_85 : decode c1_fromApplied 85 = .ok (.if_icmp .ne 7, 3) := by decide +kernel
theorem d1_fromApplied_88 : decode c1_fromApplied 88 = .ok (.iconst 0, 1) := by decide +kernel
theorem d1_fromApplied_89 : decode c1_fromApplied 89 = .ok (.goto 4, 3) := by decide +kernel
theorem d1_fromApplied_92 : decode c1_fromApplied 92 = .ok (.iconst (-1), 1) := by decide +kernel
theorem d1_fromApplied_93 : decode c1_fromApplied 93 = .ok (.ireturn, 1) := by decide +kernel
def t1_fromApplied (l : Launch) (Po : ri_O) : List ri_S := [i_il 1 0,
  i_sw [(9, 2), (10, 17), (11, 27)] 34,
  i_il 3 1,
  i_con 4 10,
  i_icmp 5 7 (fun x y => ¬ x = y),
  i_con 6 1,
  i_goto 16,
  i_il 8 1,
  i_con 9 4,
  i_icmp 10 13 (fun x y => x = y),
  i_il 11 1,
  i_con 12 7,
  i_icmp 13 15 (fun x y => ¬ x = y),
  i_con 14 0,
  i_goto 16,
  i_con 16 (-1),
  i_ret Po 0 0,
  i_il 18 1,
  i_con 19 4,
  i_icmp 20 23 (fun x y => x = y),
  i_il 21 1,
  i_con 22 7,
  i_icmp 23 25 (fun x y => ¬ x = y),
  i_con 24 0,
  i_goto 26,
  i_con 26 (-1),
  i_ret Po 0 0,
  i_il 28 1,
  i_con 29 5,
  i_icmp 30 32 (fun x y => ¬ x = y),
  i_con 31 0,
  i_goto 33,
  i_con 33 (-1),
  i_ret Po 0 0,
  i_il 35 1,
  i_con 36 3,
  i_icmp 37 39 (fun x y => ¬ x = y),
  i_con 38 0,
  i_goto 40,
  i_con 40 (-1),
  i_ret Po 0 0]
set_option maxRecDepth 20000 in
set_option maxHeartbeats 4000000 in
theorem z1_fromApplied (l : Launch) (Po : ri_O) (p : Program) (e : Env) (s : State) (m : MethodId) (args : Array Value) (below : List Frame) (meth : Method) (c : Code) (D : va_G) (ka : Nat → ClassId) (sa : Nat → Nat) (base : Nat) (X : ri_X p s m args c c1_fromApplied 2 w1_fromApplied "ChoraleSearch$Harmony" D ka sa base) (hret : meth.sig.returnType = (some .int)) (hlocks : meth.locks = false) (hname : meth.name = "fromApplied") : ri_clo (ri_W p l e r1_fromApplied s m args below meth c D ka sa base 2 (MQ below (ri_Qc D ka sa base Po) args s 0 0 (fun q => base ≤ q)) p1_fromApplied) (t1_fromApplied l Po) := by
  refine ri_clo_of ?_
  unfold t1_fromApplied
  exact ⟨s_iload_n X d1_fromApplied_0 rfl rfl,
    s_tsw X d1_fromApplied_1 rfl (by decide) (by decide) (by decide),
    s_iload_n X d1_fromApplied_28 rfl rfl,
    s_bipush X d1_fromApplied_29 rfl rfl,
    s_icmp_ne X d1_fromApplied_31 rfl rfl,
    s_iconst X d1_fromApplied_34 rfl rfl,
    s_goto X d1_fromApplied_35 rfl,
    s_iload_n X d1_fromApplied_38 rfl rfl,
    s_iconst X d1_fromApplied_39 rfl rfl,
    s_icmp_eq X d1_fromApplied_40 rfl rfl,
    s_iload_n X d1_fromApplied_43 rfl rfl,
    s_bipush X d1_fromApplied_44 rfl rfl,
    s_icmp_ne X d1_fromApplied_46 rfl rfl,
    s_iconst X d1_fromApplied_49 rfl rfl,
    s_goto X d1_fromApplied_50 rfl,
    s_iconst X d1_fromApplied_53 rfl rfl,
    s_iret X hret hlocks d1_fromApplied_54,
    s_iload_n X d1_fromApplied_55 rfl rfl,
    s_iconst X d1_fromApplied_56 rfl rfl,
    s_icmp_eq X d1_fromApplied_57 rfl rfl,
    s_iload_n X d1_fromApplied_60 rfl rfl,
    s_bipush X d1_fromApplied_61 rfl rfl,
    s_icmp_ne X d1_fromApplied_63 rfl rfl,
    s_iconst X d1_fromApplied_66 rfl rfl,
    s_goto X d1_fromApplied_67 rfl,
    s_iconst X d1_fromApplied_70 rfl rfl,
    s_iret X hret hlocks d1_fromApplied_71,
    s_iload_n X d1_fromApplied_72 rfl rfl,
    s_iconst X d1_fromApplied_73 rfl rfl,
    s_icmp_ne X d1_fromApplied_74 rfl rfl,
    s_iconst X d1_fromApplied_77 rfl rfl,
    s_goto X d1_fromApplied_78 rfl,
    s_iconst X d1_fromApplied_81 rfl rfl,
    s_iret X hret hlocks d1_fromApplied_82,
    s_iload_n X d1_fromApplied_83 rfl rfl,
    s_iconst X d1_fromApplied_84 rfl rfl,
    s_icmp_ne X d1_fromApplied_85 rfl rfl,
    s_iconst X d1_fromApplied_88 rfl rfl,
    s_goto X d1_fromApplied_89 rfl,
    s_iconst X d1_fromApplied_92 rfl rfl,
    s_iret X hret hlocks d1_fromApplied_93, trivial⟩
theorem d1_tune_0 : decode c1_tune 0 = .ok (.aload_n 0, 1) := by decide +kernel
theorem d1_tune_1 : decode c1_tune 1 = .ok (.iload_n 1, 1) := by decide +kernel
theorem d1_tune_2 : decode c1_tune 2 = .ok (.putfield 32, 3) := by decide +kernel
theorem d1_tune_5 : decode c1_tune 5 = .ok (.aload_n 0, 1) := by decide +kernel
theorem d1_tune_6 : decode c1_tune 6 = .ok (.iload_n 2, 1) := by decide +kernel
theorem d1_tune_7 : decode c1_tune 7 = .ok (.putfield 36, 3) := by decide +kernel
theorem d1_tune_10 : decode c1_tune 10 = .ok (.aload_n 0, 1) := by decide +kernel
theorem d1_tune_11 : decode c1_tune 11 = .ok (.aload_n 0, 1) := by decide +kernel
theorem d1_tune_12 : decode c1_tune 12 = .ok (.getfield 32, 3) := by decide +kernel
theorem d1_tune_15 : decode c1_tune 15 = .ok (.bipush 11, 2) := by decide +kernel
theorem d1_tune_17 : decode c1_tune 17 = .ok (.iadd, 1) := by decide +kernel
theorem d1_tune_18 : decode c1_tune 18 = .ok (.bipush 12, 2) := by decide +kernel
theorem d1_tune_20 : decode c1_tune 20 = .ok (.irem, 1) := by decide +kernel
theorem d1_tune_21 : decode c1_tune 21 = .ok (.putfield 39, 3) := by decide +kernel
theorem d1_tune_24 : decode c1_tune 24 = .ok (.aload_n 0, 1) := by decide +kernel
theorem d1_tune_25 : decode c1_tune 25 = .ok (.getfield 15, 3) := by decide +kernel
theorem d1_tune_28 : decode c1_tune 28 = .ok (.iconst 0, 1) := by decide +kernel
theorem d1_tune_29 : decode c1_tune 29 = .ok (.invokestatic 42, 3) := by decide +kernel
theorem d1_tune_32 : decode c1_tune 32 = .ok (.aload_n 0, 1) := by decide +kernel
theorem d1_tune_33 : decode c1_tune 33 = .ok (.getfield 18, 3) := by decide +kernel
theorem d1_tune_36 : decode c1_tune 36 = .ok (.iconst 0, 1) := by decide +kernel
theorem d1_tune_37 : decode c1_tune 37 = .ok (.invokestatic 42, 3) := by decide +kernel
theorem d1_tune_40 : decode c1_tune 40 = .ok (.iconst 0, 1) := by decide +kernel
theorem d1_tune_41 : decode c1_tune 41 = .ok (.istore_n 3, 1) := by decide +kernel
theorem d1_tune_42 : decode c1_tune 42 = .ok (.iload_n 3, 1) := by decide +kernel
theorem d1_tune_43 : decode c1_tune 43 = .ok (.bipush 13, 2) := by decide +kernel
theorem d1_tune_45 : decode c1_tune 45 = .ok (.if_icmp .ge 31, 3) := by decide +kernel
theorem d1_tune_48 : decode c1_tune 48 = .ok (.iconst 0, 1) := by decide +kernel
theorem d1_tune_49 : decode c1_tune 49 = .ok (.istore 4, 2) := by decide +kernel
theorem d1_tune_51 : decode c1_tune 51 = .ok (.iload 4, 2) := by decide +kernel
theorem d1_tune_53 : decode c1_tune 53 = .ok (.iconst 4, 1) := by decide +kernel
theorem d1_tune_54 : decode c1_tune 54 = .ok (.if_icmp .ge 16, 3) := by decide +kernel
theorem d1_tune_57 : decode c1_tune 57 = .ok (.aload_n 0, 1) := by decide +kernel
theorem d1_tune_58 : decode c1_tune 58 = .ok (.iload_n 3, 1) := by decide +kernel
theorem d1_tune_59 : decode c1_tune 59 = .ok (.iload 4, 2) := by decide +kernel
theorem d1_tune_61 : decode c1_tune 61 = .ok (.invokevirtual 48, 3) := by decide +kernel
theorem d1_tune_64 : decode c1_tune 64 = .ok (.iinc 4 1, 3) := by decide +kernel
theorem d1_tune_67 : decode c1_tune 67 = .ok (.goto (-16), 3) := by decide +kernel
theorem d1_tune_70 : decode c1_tune 70 = .ok (.iinc 3 1, 3) := by decide +kernel
theorem d1_tune_73 : decode c1_tune 73 = .ok (.goto (-31), 3) := by decide +kernel
theorem d1_tune_76 : decode c1_tune 76 = .ok (.return_, 1) := by decide +kernel
def t1_tune (l : Launch) (Po : ri_O) : List ri_S := [i_al 1 0,
  i_il 2 1,
  i_put 3 1 0 ri_isI,
  i_al 4 0,
  i_il 5 2,
  i_put 6 1 1 ri_isI,
  i_al 7 0,
  i_al 8 0,
  i_get 9 1 0,
  i_con 10 11,
  i_bin 11 (fun x y => x + y),
  i_con 12 12,
  i_div 13 (fun x y => x - x / y * y),
  i_put 14 1 2 ri_isI,
  i_al 15 0,
  i_get 16 1 4,
  i_con 17 0,
  i_call 18 2 (ri_Ev l y15_fill w15_fill r15_fill 0 0) 0 0 0 0,
  i_al 19 0,
  i_get 20 1 5,
  i_con 21 0,
  i_call 22 2 (ri_Ev l y15_fill w15_fill r15_fill 0 0) 0 0 0 0,
  i_con 23 0,
  i_is 24 3,
  i_il 25 3,
  i_con 26 13,
  i_icmp 27 40 (fun x y => y ≤ x),
  i_con 28 0,
  i_is 29 4,
  i_il 30 4,
  i_con 31 4,
  i_icmp 32 38 (fun x y => y ≤ x),
  i_al 33 0,
  i_il 34 3,
  i_il 35 4,
  i_callV 36 3 1 (ri_Ev l y1_tuneMember w1_tuneMember r1_tuneMember 0 0) 0 0 0 0,
  i_inc 37 4 1,
  i_goto 29,
  i_inc 39 3 1,
  i_goto 24,
  i_vret Po 0 0]
set_option maxRecDepth 20000 in
set_option maxHeartbeats 4000000 in
theorem z1_tune (l : Launch) (Po : ri_O) (p : Program) (e : Env) (s : State) (m : MethodId) (args : Array Value) (below : List Frame) (meth : Method) (c : Code) (D : va_G) (ka : Nat → ClassId) (sa : Nat → Nat) (base : Nat) (X : ri_X p s m args c c1_tune 5 w1_tune "ChoraleSearch$Harmony" D ka sa base) (hret : meth.sig.returnType = none) (hlocks : meth.locks = false) (hname : meth.name = "tune") : ri_clo (ri_W p l e r1_tune s m args below meth c D ka sa base 5 (MQ below (ri_Qc D ka sa base Po) args s 0 0 (fun q => base ≤ q)) p1_tune) (t1_tune l Po) := by
  refine ri_clo_of ?_
  unfold t1_tune
  exact ⟨s_aload_n X d1_tune_0 rfl rfl,
    s_iload_n X d1_tune_1 rfl rfl,
    s_put X (ci := 1) (f := 0) rfl (fun w h => List.mem_cons_of_mem _ (uC_1 w h)) (by decide) tC_1 oC_1 nC_1 rfl ri_ok_int (List.mem_cons_of_mem _ mgw_115) d1_tune_2 rfl,
    s_aload_n X d1_tune_5 rfl rfl,
    s_iload_n X d1_tune_6 rfl rfl,
    s_put X (ci := 1) (f := 1) rfl (fun w h => List.mem_cons_of_mem _ (uC_1 w h)) (by decide) tC_1 oC_1 nC_1 rfl ri_ok_int (List.mem_cons_of_mem _ mgw_117) d1_tune_7 rfl,
    s_aload_n X d1_tune_10 rfl rfl,
    s_aload_n X d1_tune_11 rfl rfl,
    s_get X (ci := 1) (f := 0) rfl (fun w h => List.mem_cons_of_mem _ (uC_1 w h)) (by decide) (List.mem_cons_of_mem _ mgw_115) d1_tune_12 rfl,
    s_bipush X d1_tune_15 rfl rfl,
    s_iadd X d1_tune_17 rfl,
    s_bipush X d1_tune_18 rfl rfl,
    s_irem X d1_tune_20 rfl,
    s_put X (ci := 1) (f := 2) rfl (fun w h => List.mem_cons_of_mem _ (uC_1 w h)) (by decide) tC_1 oC_1 nC_1 rfl ri_ok_int (List.mem_cons_of_mem _ mgw_119) d1_tune_21 rfl,
    s_aload_n X d1_tune_24 rfl rfl,
    s_get X (ci := 1) (f := 4) rfl (fun w h => List.mem_cons_of_mem _ (uC_1 w h)) (by decide) (List.mem_cons_of_mem _ mgw_123) d1_tune_25 rfl,
    s_iconst X d1_tune_28 rfl rfl,
    s_callS ri_NW_ok X ⟨ri_cB X 2 mgw_106 (List.mem_cons_of_mem _ mgw_4) (List.mem_cons_of_mem _ mgw_104) (by decide +kernel) rfl rfl ⟨by decide, by decide⟩, X.2.2.2.2.1 _ (List.mem_cons_of_mem _ mgw_105)⟩ d1_tune_29 rfl,
    s_aload_n X d1_tune_32 rfl rfl,
    s_get X (ci := 1) (f := 5) rfl (fun w h => List.mem_cons_of_mem _ (uC_1 w h)) (by decide) (List.mem_cons_of_mem _ mgw_124) d1_tune_33 rfl,
    s_iconst X d1_tune_36 rfl rfl,
    s_callS ri_NW_ok X ⟨ri_cB X 2 mgw_106 (List.mem_cons_of_mem _ mgw_4) (List.mem_cons_of_mem _ mgw_104) (by decide +kernel) rfl rfl ⟨by decide, by decide⟩, X.2.2.2.2.1 _ (List.mem_cons_of_mem _ mgw_105)⟩ d1_tune_37 rfl,
    s_iconst X d1_tune_40 rfl rfl,
    s_istore_n X d1_tune_41 rfl (by decide) rfl,
    s_iload_n X d1_tune_42 rfl rfl,
    s_bipush X d1_tune_43 rfl rfl,
    s_icmp_ge X d1_tune_45 rfl rfl,
    s_iconst X d1_tune_48 rfl rfl,
    s_istore X d1_tune_49 (by decide) rfl,
    s_iload X d1_tune_51 rfl,
    s_iconst X d1_tune_53 rfl rfl,
    s_icmp_ge X d1_tune_54 rfl rfl,
    s_aload_n X d1_tune_57 rfl rfl,
    s_iload_n X d1_tune_58 rfl rfl,
    s_iload X d1_tune_59 rfl,
    s_callV ri_NW_ok X (na := 2) (ci := 1) rfl ⟨ri_cB X 2 mgw_110 (List.mem_cons_of_mem _ mgw_3) (List.mem_cons_of_mem _ mgw_107) (by decide +kernel) rfl rfl ⟨by decide, by decide⟩, X.2.2.2.2.1 _ (List.mem_cons_of_mem _ mgw_109), X.2.2.2.2.1 _ (List.mem_cons_of_mem _ mgp_2)⟩ d1_tune_61 rfl,
    s_iinc X d1_tune_64 rfl (by decide) rfl,
    s_goto X d1_tune_67 rfl,
    s_iinc X d1_tune_70 rfl (by decide) rfl,
    s_goto X d1_tune_73 rfl,
    s_vret X hret hlocks d1_tune_76, trivial⟩
theorem d15_fill_0 : decode c15_fill 0 = .ok (.iconst 0, 1) := by decide +kernel
theorem d15_fill_1 : decode c15_fill 1 = .ok (.istore_n 2, 1) := by decide +kernel
theorem d15_fill_2 : decode c15_fill 2 = .ok (.aload_n 0, 1) := by decide +kernel
theorem d15_fill_3 : decode c15_fill 3 = .ok (.arraylength, 1) := by decide +kernel
theorem d15_fill_4 : decode c15_fill 4 = .ok (.istore_n 3, 1) := by decide +kernel
theorem d15_fill_5 : decode c15_fill 5 = .ok (.iload_n 2, 1) := by decide +kernel
theorem d15_fill_6 : decode c15_fill 6 = .ok (.iload_n 3, 1) := by decide +kernel
theorem d15_fill_7 : decode c15_fill 7 = .ok (.if_icmp .ge 13, 3) := by decide +kernel
theorem d15_fill_10 : decode c15_fill 10 = .ok (.aload_n 0, 1) := by decide +kernel
theorem d15_fill_11 : decode c15_fill 11 = .ok (.iload_n 2, 1) := by decide +kernel
theorem d15_fill_12 : decode c15_fill 12 = .ok (.iload_n 1, 1) := by decide +kernel
theorem d15_fill_13 : decode c15_fill 13 = .ok (.iastore, 1) := by decide +kernel
theorem d15_fill_14 : decode c15_fill 14 = .ok (.iinc 2 1, 3) := by decide +kernel
theorem d15_fill_17 : decode c15_fill 17 = .ok (.goto (-12), 3) := by decide +kernel
theorem d15_fill_20 : decode c15_fill 20 = .ok (.return_, 1) := by decide +kernel
def t15_fill (l : Launch) (Po : ri_O) : List ri_S := [i_con 1 0,
  i_is 2 2,
  i_al 3 0,
  i_alen 4,
  i_is 5 3,
  i_il 6 2,
  i_il 7 3,
  i_icmp 8 14 (fun x y => y ≤ x),
  i_al 9 0,
  i_il 10 2,
  i_il 11 1,
  i_ast 12 0 (fun x => x),
  i_inc 13 2 1,
  i_goto 5,
  i_vret Po 0 0]
set_option maxRecDepth 20000 in
set_option maxHeartbeats 4000000 in
theorem z15_fill (l : Launch) (Po : ri_O) (p : Program) (e : Env) (s : State) (m : MethodId) (args : Array Value) (below : List Frame) (meth : Method) (c : Code) (D : va_G) (ka : Nat → ClassId) (sa : Nat → Nat) (base : Nat) (X : ri_X p s m args c c15_fill 4 w15_fill "java/util/Arrays" D ka sa base) (hret : meth.sig.returnType = none) (hlocks : meth.locks = false) (hname : meth.name = "fill") : ri_clo (ri_W p l e r15_fill s m args below meth c D ka sa base 4 (MQ below (ri_Qc D ka sa base Po) args s 0 0 (fun q => base ≤ q)) p15_fill) (t15_fill l Po) := by
  refine ri_clo_of ?_
  unfold t15_fill
  exact ⟨s_iconst X d15_fill_0 rfl rfl,
    s_istore_n X d15_fill_1 rfl (by decide) rfl,
    s_aload_n X d15_fill_2 rfl rfl,
    s_alen X ri_kt_all d15_fill_3 rfl,
    s_istore_n X d15_fill_4 rfl (by decide) rfl,
    s_iload_n X d15_fill_5 rfl rfl,
    s_iload_n X d15_fill_6 rfl rfl,
    s_icmp_ge X d15_fill_7 rfl rfl,
    s_aload_n X d15_fill_10 rfl rfl,
    s_iload_n X d15_fill_11 rfl rfl,
    s_iload_n X d15_fill_12 rfl rfl,
    s_iast X rfl d15_fill_13 rfl,
    s_iinc X d15_fill_14 rfl (by decide) rfl,
    s_goto X d15_fill_17 rfl,
    s_vret X hret hlocks d15_fill_20, trivial⟩
theorem d1_tuneMember_0 : decode c1_tuneMember 0 = .ok (.iload_n 1, 1) := by decide +kernel
theorem d1_tuneMember_1 : decode c1_tuneMember 1 = .ok (.iconst 4, 1) := by decide +kernel
theorem d1_tuneMember_2 : decode c1_tuneMember 2 = .ok (.imul, 1) := by decide +kernel
theorem d1_tuneMember_3 : decode c1_tuneMember 3 = .ok (.iload_n 2, 1) := by decide +kernel
theorem d1_tuneMember_4 : decode c1_tuneMember 4 = .ok (.iadd, 1) := by decide +kernel
theorem d1_tuneMember_5 : decode c1_tuneMember 5 = .ok (.istore_n 3, 1) := by decide +kernel
theorem d1_tuneMember_6 : decode c1_tuneMember 6 = .ok (.aload_n 0, 1) := by decide +kernel
theorem d1_tuneMember_7 : decode c1_tuneMember 7 = .ok (.getfield 36, 3) := by decide +kernel
theorem d1_tuneMember_10 : decode c1_tuneMember 10 = .ok (.iconst 1, 1) := by decide +kernel
theorem d1_tuneMember_11 : decode c1_tuneMember 11 = .ok (.if_icmp .ne 11, 3) := by decide +kernel
theorem d1_tuneMember_14 : decode c1_tuneMember 14 = .ok (.getstatic 51, 3) := by decide +kernel
theorem d1_tuneMember_17 : decode c1_tuneMember 17 = .ok (.iload_n 3, 1) := by decide +kernel
theorem d1_tuneMember_18 : decode c1_tuneMember 18 = .ok (.iaload, 1) := by decide +kernel
theorem d1_tuneMember_19 : decode c1_tuneMember 19 = .ok (.goto 8, 3) := by decide +kernel
theorem d1_tuneMember_22 : decode c1_tuneMember 22 = .ok (.getstatic 54, 3) := by decide +kernel
theorem d1_tuneMember_25 : decode c1_tuneMember 25 = .ok (.iload_n 3, 1) := by decide +kernel
theorem d1_tuneMember_26 : decode c1_tuneMember 26 = .ok (.iaload, 1) := by decide +kernel
theorem d1_tuneMember_27 : decode c1_tuneMember 27 = .ok (.istore 4, 2) := by decide +kernel
theorem d1_tuneMember_29 : decode c1_tuneMember 29 = .ok (.iload 4, 2) := by decide +kernel
theorem d1_tuneMember_31 : decode c1_tuneMember 31 = .ok (.bipush (-2), 2) := by decide +kernel
theorem d1_tuneMember_33 : decode c1_tuneMember 33 = .ok (.if_icmp .ne 12, 3) := by decide +kernel
theorem d1_tuneMember_36 : decode c1_tuneMember 36 = .ok (.aload_n 0, 1) := by decide +kernel
theorem d1_tuneMember_37 : decode c1_tuneMember 37 = .ok (.getfield 11, 3) := by decide +kernel
theorem d1_tuneMember_40 : decode c1_tuneMember 40 = .ok (.iload_n 3, 1) := by decide +kernel
theorem d1_tuneMember_41 : decode c1_tuneMember 41 = .ok (.bipush (-2), 2) := by decide +kernel
theorem d1_tuneMember_43 : decode c1_tuneMember 43 = .ok (.iastore, 1) := by decide +kernel
theorem d1_tuneMember_44 : decode c1_tuneMember 44 = .ok (.return_, 1) := by decide +kernel
theorem d1_tuneMember_45 : decode c1_tuneMember 45 = .ok (.aload_n 0, 1) := by decide +kernel
theorem d1_tuneMember_46 : decode c1_tuneMember 46 = .ok (.getfield 32, 3) := by decide +kernel
theorem d1_tuneMember_49 : decode c1_tuneMember 49 = .ok (.iload 4, 2) := by decide +kernel
theorem d1_tuneMember_51 : decode c1_tuneMember 51 = .ok (.iadd, 1) := by decide +kernel
theorem d1_tuneMember_52 : decode c1_tuneMember 52 = .ok (.bipush 12, 2) := by decide +kernel
theorem d1_tuneMember_54 : decode c1_tuneMember 54 = .ok (.irem, 1) := by decide +kernel
theorem d1_tuneMember_55 : decode c1_tuneMember 55 = .ok (.istore 5, 2) := by decide +kernel
theorem d1_tuneMember_57 : decode c1_tuneMember 57 = .ok (.aload_n 0, 1) := by decide +kernel
theorem d1_tuneMember_58 : decode c1_tuneMember 58 = .ok (.getfield 11, 3) := by decide +kernel
theorem d1_tuneMember_61 : decode c1_tuneMember 61 = .ok (.iload_n 3, 1) := by decide +kernel
theorem d1_tuneMember_62 : decode c1_tuneMember 62 = .ok (.iload 5, 2) := by decide +kernel
theorem d1_tuneMember_64 : decode c1_tuneMember 64 = .ok (.iastore, 1) := by decide +kernel
theorem d1_tuneMember_65 : decode c1_tuneMember 65 = .ok (.aload_n 0, 1) := by decide +kernel
theorem d1_tuneMember_66 : decode c1_tuneMember 66 = .ok (.getfield 15, 3) := by decide +kernel
theorem d1_tuneMember_69 : decode c1_tuneMember 69 = .ok (.iload_n 2, 1) := by decide +kernel
theorem d1_tuneMember_70 : decode c1_tuneMember 70 = .ok (.bipush 12, 2) := by decide +kernel
theorem d1_tuneMember_72 : decode c1_tuneMember 72 = .ok (.imul, 1) := by decide +kernel
theorem d1_tuneMember_73 : decode c1_tuneMember 73 = .ok (.iload 5, 2) := by decide +kernel
theorem d1_tuneMember_75 : decode c1_tuneMember 75 = .ok (.iadd, 1) := by decide +kernel
theorem d1_tuneMember_76 : decode c1_tuneMember 76 = .ok (.dup2, 1) := by decide +kernel
theorem d1_tuneMember_77 : decode c1_tuneMember 77 = .ok (.iaload, 1) := by decide +kernel
theorem d1_tuneMember_78 : decode c1_tuneMember 78 = .ok (.iconst 1, 1) := by decide +kernel
theorem d1_tuneMember_79 : decode c1_tuneMember 79 = .ok (.iload_n 1, 1) := by decide +kernel
theorem d1_tuneMember_80 : decode c1_tuneMember 80 = .ok (.ishl, 1) := by decide +kernel
theorem d1_tuneMember_81 : decode c1_tuneMember 81 = .ok (.ior, 1) := by decide +kernel
theorem d1_tuneMember_82 : decode c1_tuneMember 82 = .ok (.iastore, 1) := by decide +kernel
theorem d1_tuneMember_83 : decode c1_tuneMember 83 = .ok (.aload_n 0, 1) := by decide +kernel
theorem d1_tuneMember_84 : decode c1_tuneMember 84 = .ok (.getfield 18, 3) := by decide +kernel
theorem d1_tuneMember_87 : decode c1_tuneMember 87 = .ok (.iload 5, 2) := by decide +kernel
theorem d1_tuneMember_89 : decode c1_tuneMember 89 = .ok (.dup2, 1) := by decide +kernel
theorem d1_tuneMember_90 : decode c1_tuneMember 90 = .ok (.iaload, 1) := by decide +kernel
theorem d1_tuneMember_91 : decode c1_tuneMember 91 = .ok (.iconst 1, 1) := by decide +kernel
theorem d1_tuneMember_92 : decode c1_tuneMember 92 = .ok (.iload_n 1, 1) := by decide +kernel
theorem d1_tuneMember_93 : decode c1_tuneMember 93 = .ok (.ishl, 1) := by decide +kernel
theorem d1_tuneMember_94 : decode c1_tuneMember 94 = .ok (.ior, 1) := by decide +kernel
theorem d1_tuneMember_95 : decode c1_tuneMember 95 = .ok (.iastore, 1) := by decide +kernel
theorem d1_tuneMember_96 : decode c1_tuneMember 96 = .ok (.return_, 1) := by decide +kernel
def t1_tuneMember (l : Launch) (Po : ri_O) : List ri_S := [i_il 1 1,
  i_con 2 4,
  i_bin 3 (fun x y => x * y),
  i_il 4 2,
  i_bin 5 (fun x y => x + y),
  i_is 6 3,
  i_al 7 0,
  i_get 8 1 1,
  i_con 9 1,
  i_icmp 10 14 (fun x y => ¬ x = y),
  i_gets 11 2,
  i_il 12 3,
  i_ald 13 0,
  i_goto 17,
  i_gets 15 1,
  i_il 16 3,
  i_ald 17 0,
  i_is 18 4,
  i_il 19 4,
  i_con 20 (-2),
  i_icmp 21 27 (fun x y => ¬ x = y),
  i_al 22 0,
  i_get 23 1 3,
  i_il 24 3,
  i_con 25 (-2),
  i_ast 26 0 (fun x => x),
  i_vret Po 0 0,
  i_al 28 0,
  i_get 29 1 0,
  i_il 30 4,
  i_bin 31 (fun x y => x + y),
  i_con 32 12,
  i_div 33 (fun x y => x - x / y * y),
  i_is 34 5,
  i_al 35 0,
  i_get 36 1 3,
  i_il 37 3,
  i_il 38 5,
  i_ast 39 0 (fun x => x),
  i_al 40 0,
  i_get 41 1 4,
  i_il 42 2,
  i_con 43 12,
  i_bin 44 (fun x y => x * y),
  i_il 45 5,
  i_bin 46 (fun x y => x + y),
  i_dup2 47,
  i_ald 48 0,
  i_con 49 1,
  i_il 50 1,
  i_bin 51 (fun x y => x <<< (y &&& 31)),
  i_bin 52 (fun x y => x ||| y),
  i_ast 53 0 (fun x => x),
  i_al 54 0,
  i_get 55 1 5,
  i_il 56 5,
  i_dup2 57,
  i_ald 58 0,
  i_con 59 1,
  i_il 60 1,
  i_bin 61 (fun x y => x <<< (y &&& 31)),
  i_bin 62 (fun x y => x ||| y),
  i_ast 63 0 (fun x => x),
  i_vret Po 0 0]
set_option maxRecDepth 20000 in
set_option maxHeartbeats 4000000 in
theorem z1_tuneMember (l : Launch) (Po : ri_O) (p : Program) (e : Env) (s : State) (m : MethodId) (args : Array Value) (below : List Frame) (meth : Method) (c : Code) (D : va_G) (ka : Nat → ClassId) (sa : Nat → Nat) (base : Nat) (X : ri_X p s m args c c1_tuneMember 6 w1_tuneMember "ChoraleSearch$Harmony" D ka sa base) (hret : meth.sig.returnType = none) (hlocks : meth.locks = false) (hname : meth.name = "tuneMember") : ri_clo (ri_W p l e r1_tuneMember s m args below meth c D ka sa base 6 (MQ below (ri_Qc D ka sa base Po) args s 0 0 (fun q => base ≤ q)) p1_tuneMember) (t1_tuneMember l Po) := by
  refine ri_clo_of ?_
  unfold t1_tuneMember
  exact ⟨s_iload_n X d1_tuneMember_0 rfl rfl,
    s_iconst X d1_tuneMember_1 rfl rfl,
    s_imul X d1_tuneMember_2 rfl,
    s_iload_n X d1_tuneMember_3 rfl rfl,
    s_iadd X d1_tuneMember_4 rfl,
    s_istore_n X d1_tuneMember_5 rfl (by decide) rfl,
    s_aload_n X d1_tuneMember_6 rfl rfl,
    s_get X (ci := 1) (f := 1) rfl (fun w h => List.mem_cons_of_mem _ (uC_1 w h)) (by decide) (List.mem_cons_of_mem _ mgw_117) d1_tuneMember_7 rfl,
    s_iconst X d1_tuneMember_10 rfl rfl,
    s_icmp_ne X d1_tuneMember_11 rfl rfl,
    s_gets X (q := 2) rfl rfl (List.mem_cons_of_mem _ mgw_111) d1_tuneMember_14 rfl,
    s_iload_n X d1_tuneMember_17 rfl rfl,
    s_iald X rfl d1_tuneMember_18 rfl,
    s_goto X d1_tuneMember_19 rfl,
    s_gets X (q := 1) rfl rfl (List.mem_cons_of_mem _ mgw_113) d1_tuneMember_22 rfl,
    s_iload_n X d1_tuneMember_25 rfl rfl,
    s_iald X rfl d1_tuneMember_26 rfl,
    s_istore X d1_tuneMember_27 (by decide) rfl,
    s_iload X d1_tuneMember_29 rfl,
    s_bipush X d1_tuneMember_31 rfl rfl,
    s_icmp_ne X d1_tuneMember_33 rfl rfl,
    s_aload_n X d1_tuneMember_36 rfl rfl,
    s_get X (ci := 1) (f := 3) rfl (fun w h => List.mem_cons_of_mem _ (uC_1 w h)) (by decide) (List.mem_cons_of_mem _ mgw_122) d1_tuneMember_37 rfl,
    s_iload_n X d1_tuneMember_40 rfl rfl,
    s_bipush X d1_tuneMember_41 rfl rfl,
    s_iast X rfl d1_tuneMember_43 rfl,
    s_vret X hret hlocks d1_tuneMember_44,
    s_aload_n X d1_tuneMember_45 rfl rfl,
    s_get X (ci := 1) (f := 0) rfl (fun w h => List.mem_cons_of_mem _ (uC_1 w h)) (by decide) (List.mem_cons_of_mem _ mgw_115) d1_tuneMember_46 rfl,
    s_iload X d1_tuneMember_49 rfl,
    s_iadd X d1_tuneMember_51 rfl,
    s_bipush X d1_tuneMember_52 rfl rfl,
    s_irem X d1_tuneMember_54 rfl,
    s_istore X d1_tuneMember_55 (by decide) rfl,
    s_aload_n X d1_tuneMember_57 rfl rfl,
    s_get X (ci := 1) (f := 3) rfl (fun w h => List.mem_cons_of_mem _ (uC_1 w h)) (by decide) (List.mem_cons_of_mem _ mgw_122) d1_tuneMember_58 rfl,
    s_iload_n X d1_tuneMember_61 rfl rfl,
    s_iload X d1_tuneMember_62 rfl,
    s_iast X rfl d1_tuneMember_64 rfl,
    s_aload_n X d1_tuneMember_65 rfl rfl,
    s_get X (ci := 1) (f := 4) rfl (fun w h => List.mem_cons_of_mem _ (uC_1 w h)) (by decide) (List.mem_cons_of_mem _ mgw_123) d1_tuneMember_66 rfl,
    s_iload_n X d1_tuneMember_69 rfl rfl,
    s_bipush X d1_tuneMember_70 rfl rfl,
    s_imul X d1_tuneMember_72 rfl,
    s_iload X d1_tuneMember_73 rfl,
    s_iadd X d1_tuneMember_75 rfl,
    s_dup2 X d1_tuneMember_76 rfl,
    s_iald X rfl d1_tuneMember_77 rfl,
    s_iconst X d1_tuneMember_78 rfl rfl,
    s_iload_n X d1_tuneMember_79 rfl rfl,
    s_ishl X d1_tuneMember_80 rfl,
    s_ior X d1_tuneMember_81 rfl,
    s_iast X rfl d1_tuneMember_82 rfl,
    s_aload_n X d1_tuneMember_83 rfl rfl,
    s_get X (ci := 1) (f := 5) rfl (fun w h => List.mem_cons_of_mem _ (uC_1 w h)) (by decide) (List.mem_cons_of_mem _ mgw_124) d1_tuneMember_84 rfl,
    s_iload X d1_tuneMember_87 rfl,
    s_dup2 X d1_tuneMember_89 rfl,
    s_iald X rfl d1_tuneMember_90 rfl,
    s_iconst X d1_tuneMember_91 rfl rfl,
    s_iload_n X d1_tuneMember_92 rfl rfl,
    s_ishl X d1_tuneMember_93 rfl,
    s_ior X d1_tuneMember_94 rfl,
    s_iast X rfl d1_tuneMember_95 rfl,
    s_vret X hret hlocks d1_tuneMember_96, trivial⟩
theorem d1_chordsWith_0 : decode c1_chordsWith 0 = .ok (.aload_n 0, 1) := by decide +kernel
theorem d1_chordsWith_1 : decode c1_chordsWith 1 = .ok (.getfield 18, 3) := by decide +kernel
theorem d1_chordsWith_4 : decode c1_chordsWith 4 = .ok (.iload_n 1, 1) := by decide +kernel
theorem d1_chordsWith_5 : decode c1_chordsWith 5 = .ok (.bipush 12, 2) := by decide +kernel
theorem d1_chordsWith_7 : decode c1_chordsWith 7 = .ok (.irem, 1) := by decide +kernel
theorem d1_chordsWith_8 : decode c1_chordsWith 8 = .ok (.iaload, 1) := by decide +kernel
theorem d1_chordsWith_9 : decode c1_chordsWith 9 = .ok (.ireturn, 1) := by decide +kernel
def t1_chordsWith (l : Launch) (Po : ri_O) : List ri_S := [i_al 1 0,
  i_get 2 1 5,
  i_il 3 1,
  i_con 4 12,
  i_div 5 (fun x y => x - x / y * y),
  i_ald 6 0,
  i_ret Po 0 0]
set_option maxRecDepth 20000 in
set_option maxHeartbeats 4000000 in
theorem z1_chordsWith (l : Launch) (Po : ri_O) (p : Program) (e : Env) (s : State) (m : MethodId) (args : Array Value) (below : List Frame) (meth : Method) (c : Code) (D : va_G) (ka : Nat → ClassId) (sa : Nat → Nat) (base : Nat) (X : ri_X p s m args c c1_chordsWith 2 w1_chordsWith "ChoraleSearch$Harmony" D ka sa base) (hret : meth.sig.returnType = (some .int)) (hlocks : meth.locks = false) (hname : meth.name = "chordsWith") : ri_clo (ri_W p l e r1_chordsWith s m args below meth c D ka sa base 2 (MQ below (ri_Qc D ka sa base Po) args s 0 0 (fun q => base ≤ q)) p1_chordsWith) (t1_chordsWith l Po) := by
  refine ri_clo_of ?_
  unfold t1_chordsWith
  exact ⟨s_aload_n X d1_chordsWith_0 rfl rfl,
    s_get X (ci := 1) (f := 5) rfl (fun w h => List.mem_cons_of_mem _ (uC_1 w h)) (by decide) (List.mem_cons_of_mem _ mgw_124) d1_chordsWith_1 rfl,
    s_iload_n X d1_chordsWith_4 rfl rfl,
    s_bipush X d1_chordsWith_5 rfl rfl,
    s_irem X d1_chordsWith_7 rfl,
    s_iald X rfl d1_chordsWith_8 rfl,
    s_iret X hret hlocks d1_chordsWith_9, trivial⟩
theorem d1_chordsWithMember_0 : decode c1_chordsWithMember 0 = .ok (.aload_n 0, 1) := by decide +kernel
theorem d1_chordsWithMember_1 : decode c1_chordsWithMember 1 = .ok (.getfield 15, 3) := by decide +kernel
theorem d1_chordsWithMember_4 : decode c1_chordsWithMember 4 = .ok (.iload_n 1, 1) := by decide +kernel
theorem d1_chordsWithMember_5 : decode c1_chordsWithMember 5 = .ok (.bipush 12, 2) := by decide +kernel
theorem d1_chordsWithMember_7 : decode c1_chordsWithMember 7 = .ok (.imul, 1) := by decide +kernel
theorem d1_chordsWithMember_8 : decode c1_chordsWithMember 8 = .ok (.iload_n 2, 1) := by decide +kernel
theorem d1_chordsWithMember_9 : decode c1_chordsWithMember 9 = .ok (.bipush 12, 2) := by decide +kernel
theorem d1_chordsWithMember_11 : decode c1_chordsWithMember 11 = .ok (.irem, 1) := by decide +kernel
theorem d1_chordsWithMember_12 : decode c1_chordsWithMember 12 = .ok (.iadd, 1) := by decide +kernel
theorem d1_chordsWithMember_13 : decode c1_chordsWithMember 13 = .ok (.iaload, 1) := by decide +kernel
theorem d1_chordsWithMember_14 : decode c1_chordsWithMember 14 = .ok (.ireturn, 1) := by decide +kernel
def t1_chordsWithMember (l : Launch) (Po : ri_O) : List ri_S := [i_al 1 0,
  i_get 2 1 4,
  i_il 3 1,
  i_con 4 12,
  i_bin 5 (fun x y => x * y),
  i_il 6 2,
  i_con 7 12,
  i_div 8 (fun x y => x - x / y * y),
  i_bin 9 (fun x y => x + y),
  i_ald 10 0,
  i_ret Po 0 0]
set_option maxRecDepth 20000 in
set_option maxHeartbeats 4000000 in
theorem z1_chordsWithMember (l : Launch) (Po : ri_O) (p : Program) (e : Env) (s : State) (m : MethodId) (args : Array Value) (below : List Frame) (meth : Method) (c : Code) (D : va_G) (ka : Nat → ClassId) (sa : Nat → Nat) (base : Nat) (X : ri_X p s m args c c1_chordsWithMember 3 w1_chordsWithMember "ChoraleSearch$Harmony" D ka sa base) (hret : meth.sig.returnType = (some .int)) (hlocks : meth.locks = false) (hname : meth.name = "chordsWithMember") : ri_clo (ri_W p l e r1_chordsWithMember s m args below meth c D ka sa base 3 (MQ below (ri_Qc D ka sa base Po) args s 0 0 (fun q => base ≤ q)) p1_chordsWithMember) (t1_chordsWithMember l Po) := by
  refine ri_clo_of ?_
  unfold t1_chordsWithMember
  exact ⟨s_aload_n X d1_chordsWithMember_0 rfl rfl,
    s_get X (ci := 1) (f := 4) rfl (fun w h => List.mem_cons_of_mem _ (uC_1 w h)) (by decide) (List.mem_cons_of_mem _ mgw_123) d1_chordsWithMember_1 rfl,
    s_iload_n X d1_chordsWithMember_4 rfl rfl,
    s_bipush X d1_chordsWithMember_5 rfl rfl,
    s_imul X d1_chordsWithMember_7 rfl,
    s_iload_n X d1_chordsWithMember_8 rfl rfl,
    s_bipush X d1_chordsWithMember_9 rfl rfl,
    s_irem X d1_chordsWithMember_11 rfl,
    s_iadd X d1_chordsWithMember_12 rfl,
    s_iald X rfl d1_chordsWithMember_13 rfl,
    s_iret X hret hlocks d1_chordsWithMember_14, trivial⟩
theorem d1_memberClass_0 : decode c1_memberClass 0 = .ok (.aload_n 0, 1) := by decide +kernel
theorem d1_memberClass_1 : decode c1_memberClass 1 = .ok (.getfield 11, 3) := by decide +kernel
theorem d1_memberClass_4 : decode c1_memberClass 4 = .ok (.iload_n 1, 1) := by decide +kernel
theorem d1_memberClass_5 : decode c1_memberClass 5 = .ok (.iconst 4, 1) := by decide +kernel
theorem d1_memberClass_6 : decode c1_memberClass 6 = .ok (.imul, 1) := by decide +kernel
theorem d1_memberClass_7 : decode c1_memberClass 7 = .ok (.iload_n 2, 1) := by decide +kernel
theorem d1_memberClass_8 : decode c1_memberClass 8 = .ok (.iadd, 1) := by decide +kernel
theorem d1_memberClass_9 : decode c1_memberClass 9 = .ok (.iaload, 1) := by decide +kernel
theorem d1_memberClass_10 : decode c1_memberClass 10 = .ok (.ireturn, 1) := by decide +kernel
def t1_memberClass (l : Launch) (Po : ri_O) : List ri_S := [i_al 1 0,
  i_get 2 1 3,
  i_il 3 1,
  i_con 4 4,
  i_bin 5 (fun x y => x * y),
  i_il 6 2,
  i_bin 7 (fun x y => x + y),
  i_ald 8 0,
  i_ret Po 0 0]
set_option maxRecDepth 20000 in
set_option maxHeartbeats 4000000 in
theorem z1_memberClass (l : Launch) (Po : ri_O) (p : Program) (e : Env) (s : State) (m : MethodId) (args : Array Value) (below : List Frame) (meth : Method) (c : Code) (D : va_G) (ka : Nat → ClassId) (sa : Nat → Nat) (base : Nat) (X : ri_X p s m args c c1_memberClass 3 w1_memberClass "ChoraleSearch$Harmony" D ka sa base) (hret : meth.sig.returnType = (some .int)) (hlocks : meth.locks = false) (hname : meth.name = "memberClass") : ri_clo (ri_W p l e r1_memberClass s m args below meth c D ka sa base 3 (MQ below (ri_Qc D ka sa base Po) args s 0 0 (fun q => base ≤ q)) p1_memberClass) (t1_memberClass l Po) := by
  refine ri_clo_of ?_
  unfold t1_memberClass
  exact ⟨s_aload_n X d1_memberClass_0 rfl rfl,
    s_get X (ci := 1) (f := 3) rfl (fun w h => List.mem_cons_of_mem _ (uC_1 w h)) (by decide) (List.mem_cons_of_mem _ mgw_122) d1_memberClass_1 rfl,
    s_iload_n X d1_memberClass_4 rfl rfl,
    s_iconst X d1_memberClass_5 rfl rfl,
    s_imul X d1_memberClass_6 rfl,
    s_iload_n X d1_memberClass_7 rfl rfl,
    s_iadd X d1_memberClass_8 rfl,
    s_iald X rfl d1_memberClass_9 rfl,
    s_iret X hret hlocks d1_memberClass_10, trivial⟩
theorem d1_guardsLeading_0 : decode c1_guardsLeading 0 = .ok (.iload_n 1, 1) := by decide +kernel
theorem d1_guardsLeading_1 : decode c1_guardsLeading 1 = .ok (.iconst 4, 1) := by decide +kernel
theorem d1_guardsLeading_2 : decode c1_guardsLeading 2 = .ok (.if_icmp .eq 27, 3) := by decide +kernel
theorem d1_guardsLeading_5 : decode c1_guardsLeading 5 = .ok (.iload_n 1, 1) := by decide +kernel
theorem d1_guardsLeading_6 : decode c1_guardsLeading 6 = .ok (.bipush 6, 2) := by decide +kernel
theorem d1_guardsLeading_8 : decode c1_guardsLeading 8 = .ok (.if_icmp .eq 21, 3) := by decide +kernel
theorem d1_guardsLeading_11 : decode c1_guardsLeading 11 = .ok (.iload_n 1, 1) := by decide +kernel
theorem d1_guardsLeading_12 : decode c1_guardsLeading 12 = .ok (.bipush 7, 2) := by decide +kernel
theorem d1_guardsLeading_14 : decode c1_guardsLeading 14 = .ok (.if_icmp .eq 15, 3) := by decide +kernel
theorem d1_guardsLeading_17 : decode c1_guardsLeading 17 = .ok (.iload_n 1, 1) := by decide +kernel
theorem d1_guardsLeading_18 : decode c1_guardsLeading 18 = .ok (.iconst 2, 1) := by decide +kernel
theorem d1_guardsLeading_19 : decode c1_guardsLeading 19 = .ok (.if_icmp .ne 14, 3) := by decide +kernel
theorem d1_guardsLeading_22 : decode c1_guardsLeading 22 = .ok (.aload_n 0, 1) := by decide +kernel
theorem d1_guardsLeading_23 : decode c1_guardsLeading 23 = .ok (.getfield 36, 3) := by decide +kernel
theorem d1_guardsLeading_26 : decode c1_guardsLeading 26 = .ok (.ifCond .ne 7, 3) := by decide +kernel
theorem d1_guardsLeading_29 : decode c1_guardsLeading 29 = .ok (.iconst 1, 1) := by decide +kernel
theorem d1_guardsLeading_30 : decode c1_guardsLeading 30 = .ok (.goto 4, 3) := by decide +kernel
theorem d1_guardsLeading_33 : decode c1_guardsLeading 33 = .ok (.iconst 0, 1) := by decide +kernel
theorem d1_guardsLeading_34 : decode c1_guardsLeading 34 = .ok (.ireturn, 1) := by decide +kernel
def t1_guardsLeading (l : Launch) (Po : ri_O) : List ri_S := [i_il 1 1,
  i_con 2 4,
  i_icmp 3 15 (fun x y => x = y),
  i_il 4 1,
  i_con 5 6,
  i_icmp 6 15 (fun x y => x = y),
  i_il 7 1,
  i_con 8 7,
  i_icmp 9 15 (fun x y => x = y),
  i_il 10 1,
  i_con 11 2,
  i_icmp 12 17 (fun x y => ¬ x = y),
  i_al 13 0,
  i_get 14 1 1,
  i_if 15 17 (fun x => ¬ x = 0),
  i_con 16 1,
  i_goto 18,
  i_con 18 0,
  i_zret Po 0 0]
set_option maxRecDepth 20000 in
set_option maxHeartbeats 4000000 in
theorem z1_guardsLeading (l : Launch) (Po : ri_O) (p : Program) (e : Env) (s : State) (m : MethodId) (args : Array Value) (below : List Frame) (meth : Method) (c : Code) (D : va_G) (ka : Nat → ClassId) (sa : Nat → Nat) (base : Nat) (X : ri_X p s m args c c1_guardsLeading 2 w1_guardsLeading "ChoraleSearch$Harmony" D ka sa base) (hret : meth.sig.returnType = (some .boolean)) (hlocks : meth.locks = false) (hname : meth.name = "guardsLeading") : ri_clo (ri_W p l e r1_guardsLeading s m args below meth c D ka sa base 2 (MQ below (ri_Qc D ka sa base Po) args s 0 0 (fun q => base ≤ q)) p1_guardsLeading) (t1_guardsLeading l Po) := by
  refine ri_clo_of ?_
  unfold t1_guardsLeading
  exact ⟨s_iload_n X d1_guardsLeading_0 rfl rfl,
    s_iconst X d1_guardsLeading_1 rfl rfl,
    s_icmp_eq X d1_guardsLeading_2 rfl rfl,
    s_iload_n X d1_guardsLeading_5 rfl rfl,
    s_bipush X d1_guardsLeading_6 rfl rfl,
    s_icmp_eq X d1_guardsLeading_8 rfl rfl,
    s_iload_n X d1_guardsLeading_11 rfl rfl,
    s_bipush X d1_guardsLeading_12 rfl rfl,
    s_icmp_eq X d1_guardsLeading_14 rfl rfl,
    s_iload_n X d1_guardsLeading_17 rfl rfl,
    s_iconst X d1_guardsLeading_18 rfl rfl,
    s_icmp_ne X d1_guardsLeading_19 rfl rfl,
    s_aload_n X d1_guardsLeading_22 rfl rfl,
    s_get X (ci := 1) (f := 1) rfl (fun w h => List.mem_cons_of_mem _ (uC_1 w h)) (by decide) (List.mem_cons_of_mem _ mgw_117) d1_guardsLeading_23 rfl,
    s_if_ne X d1_guardsLeading_26 rfl rfl,
    s_iconst X d1_guardsLeading_29 rfl rfl,
    s_goto X d1_guardsLeading_30 rfl,
    s_iconst X d1_guardsLeading_33 rfl rfl,
    s_zret X hret hlocks d1_guardsLeading_34, trivial⟩
theorem d1_timesMember_0 : decode c1_timesMember 0 = .ok (.aload_n 0, 1) := by decide +kernel
theorem d1_timesMember_1 : decode c1_timesMember 1 = .ok (.iload_n 1, 1) := by decide +kernel
theorem d1_timesMember_2 : decode c1_timesMember 2 = .ok (.invokestatic 74, 3) := by decide +kernel
theorem d1_timesMember_5 : decode c1_timesMember 5 = .ok (.iload_n 2, 1) := by decide +kernel
theorem d1_timesMember_6 : decode c1_timesMember 6 = .ok (.invokevirtual 80, 3) := by decide +kernel
theorem d1_timesMember_9 : decode c1_timesMember 9 = .ok (.istore_n 3, 1) := by decide +kernel
theorem d1_timesMember_10 : decode c1_timesMember 10 = .ok (.iload_n 3, 1) := by decide +kernel
theorem d1_timesMember_11 : decode c1_timesMember 11 = .ok (.bipush (-2), 2) := by decide +kernel
theorem d1_timesMember_13 : decode c1_timesMember 13 = .ok (.if_icmp .ne 7, 3) := by decide +kernel
theorem d1_timesMember_16 : decode c1_timesMember 16 = .ok (.iconst 0, 1) := by decide +kernel
theorem d1_timesMember_17 : decode c1_timesMember 17 = .ok (.goto 8, 3) := by decide +kernel
theorem d1_timesMember_20 : decode c1_timesMember 20 = .ok (.iload_n 1, 1) := by decide +kernel
theorem d1_timesMember_21 : decode c1_timesMember 21 = .ok (.iload_n 3, 1) := by decide +kernel
theorem d1_timesMember_22 : decode c1_timesMember 22 = .ok (.invokestatic 83, 3) := by decide +kernel
theorem d1_timesMember_25 : decode c1_timesMember 25 = .ok (.ireturn, 1) := by decide +kernel
def t1_timesMember (l : Launch) (Po : ri_O) : List ri_S := [i_al 1 0,
  i_il 2 1,
  i_call 3 1 (ri_Ev l y11_chordOf w11_chordOf r11_chordOf 0 0) 0 0 0 0,
  i_il 4 2,
  i_callV 5 3 1 (ri_Ev l y1_memberClass w1_memberClass r1_memberClass 0 0) 0 0 0 0,
  i_is 6 3,
  i_il 7 3,
  i_con 8 (-2),
  i_icmp 9 11 (fun x y => ¬ x = y),
  i_con 10 0,
  i_goto 14,
  i_il 12 1,
  i_il 13 3,
  i_call 14 2 (ri_Ev l y11_timesClass w11_timesClass r11_timesClass 0 0) 0 0 0 0,
  i_ret Po 0 0]
set_option maxRecDepth 20000 in
set_option maxHeartbeats 4000000 in
theorem z1_timesMember (l : Launch) (Po : ri_O) (p : Program) (e : Env) (s : State) (m : MethodId) (args : Array Value) (below : List Frame) (meth : Method) (c : Code) (D : va_G) (ka : Nat → ClassId) (sa : Nat → Nat) (base : Nat) (X : ri_X p s m args c c1_timesMember 4 w1_timesMember "ChoraleSearch$Harmony" D ka sa base) (hret : meth.sig.returnType = (some .int)) (hlocks : meth.locks = false) (hname : meth.name = "timesMember") : ri_clo (ri_W p l e r1_timesMember s m args below meth c D ka sa base 4 (MQ below (ri_Qc D ka sa base Po) args s 0 0 (fun q => base ≤ q)) p1_timesMember) (t1_timesMember l Po) := by
  refine ri_clo_of ?_
  unfold t1_timesMember
  exact ⟨s_aload_n X d1_timesMember_0 rfl rfl,
    s_iload_n X d1_timesMember_1 rfl rfl,
    s_callSN ri_NW_ok X ⟨ri_cN X 1 mgw_535 (List.mem_cons_of_mem _ mgw_14) (List.mem_of_getElem? (i := 69) rfl) (by decide +kernel) rfl rfl ⟨by decide, by decide⟩, X.2.2.2.2.1 _ (List.mem_cons_of_mem _ mgw_534), trivial⟩ d1_timesMember_2 rfl,
    s_iload_n X d1_timesMember_5 rfl rfl,
    s_callV ri_NW_ok X (na := 2) (ci := 1) rfl ⟨ri_cB X 2 mgw_491 (List.mem_cons_of_mem _ mgw_3) (List.mem_cons_of_mem _ mgw_547) (by decide +kernel) rfl rfl ⟨by decide, by decide⟩, X.2.2.2.2.1 _ (List.mem_cons_of_mem _ mgw_490), X.2.2.2.2.1 _ (List.mem_cons_of_mem _ mgp_22)⟩ d1_timesMember_6 rfl,
    s_istore_n X d1_timesMember_9 rfl (by decide) rfl,
    s_iload_n X d1_timesMember_10 rfl rfl,
    s_bipush X d1_timesMember_11 rfl rfl,
    s_icmp_ne X d1_timesMember_13 rfl rfl,
    s_iconst X d1_timesMember_16 rfl rfl,
    s_goto X d1_timesMember_17 rfl,
    s_iload_n X d1_timesMember_20 rfl rfl,
    s_iload_n X d1_timesMember_21 rfl rfl,
    s_callSN ri_NW_ok X ⟨ri_cN X 2 mgw_494 (List.mem_cons_of_mem _ mgw_14) (List.mem_of_getElem? (i := 70) rfl) (by decide +kernel) rfl rfl ⟨by decide, by decide⟩, X.2.2.2.2.1 _ (List.mem_cons_of_mem _ mgw_493), trivial⟩ d1_timesMember_22 rfl,
    s_iret X hret hlocks d1_timesMember_25, trivial⟩
theorem d1_unitsBetween_0 : decode c1_unitsBetween 0 = .ok (.aload_n 0, 1) := by decide +kernel
theorem d1_unitsBetween_1 : decode c1_unitsBetween 1 = .ok (.getfield 21, 3) := by decide +kernel
theorem d1_unitsBetween_4 : decode c1_unitsBetween 4 = .ok (.iload_n 1, 1) := by decide +kernel
theorem d1_unitsBetween_5 : decode c1_unitsBetween 5 = .ok (.bipush 16, 2) := by decide +kernel
theorem d1_unitsBetween_7 : decode c1_unitsBetween 7 = .ok (.imul, 1) := by decide +kernel
theorem d1_unitsBetween_8 : decode c1_unitsBetween 8 = .ok (.iload_n 2, 1) := by decide +kernel
theorem d1_unitsBetween_9 : decode c1_unitsBetween 9 = .ok (.iadd, 1) := by decide +kernel
theorem d1_unitsBetween_10 : decode c1_unitsBetween 10 = .ok (.iaload, 1) := by decide +kernel
theorem d1_unitsBetween_11 : decode c1_unitsBetween 11 = .ok (.ireturn, 1) := by decide +kernel
def t1_unitsBetween (l : Launch) (Po : ri_O) : List ri_S := [i_al 1 0,
  i_get 2 1 6,
  i_il 3 1,
  i_con 4 16,
  i_bin 5 (fun x y => x * y),
  i_il 6 2,
  i_bin 7 (fun x y => x + y),
  i_ald 8 0,
  i_ret Po 0 0]
set_option maxRecDepth 20000 in
set_option maxHeartbeats 4000000 in
theorem z1_unitsBetween (l : Launch) (Po : ri_O) (p : Program) (e : Env) (s : State) (m : MethodId) (args : Array Value) (below : List Frame) (meth : Method) (c : Code) (D : va_G) (ka : Nat → ClassId) (sa : Nat → Nat) (base : Nat) (X : ri_X p s m args c c1_unitsBetween 3 w1_unitsBetween "ChoraleSearch$Harmony" D ka sa base) (hret : meth.sig.returnType = (some .int)) (hlocks : meth.locks = false) (hname : meth.name = "unitsBetween") : ri_clo (ri_W p l e r1_unitsBetween s m args below meth c D ka sa base 3 (MQ below (ri_Qc D ka sa base Po) args s 0 0 (fun q => base ≤ q)) p1_unitsBetween) (t1_unitsBetween l Po) := by
  refine ri_clo_of ?_
  unfold t1_unitsBetween
  exact ⟨s_aload_n X d1_unitsBetween_0 rfl rfl,
    s_get X (ci := 1) (f := 6) rfl (fun w h => List.mem_cons_of_mem _ (uC_1 w h)) (by decide) (List.mem_cons_of_mem _ mgw_125) d1_unitsBetween_1 rfl,
    s_iload_n X d1_unitsBetween_4 rfl rfl,
    s_bipush X d1_unitsBetween_5 rfl rfl,
    s_imul X d1_unitsBetween_7 rfl,
    s_iload_n X d1_unitsBetween_8 rfl rfl,
    s_iadd X d1_unitsBetween_9 rfl,
    s_iald X rfl d1_unitsBetween_10 rfl,
    s_iret X hret hlocks d1_unitsBetween_11, trivial⟩
theorem d1_inScale_0 : decode c1_inScale 0 = .ok (.iload_n 1, 1) := by decide +kernel
theorem d1_inScale_1 : decode c1_inScale 1 = .ok (.aload_n 0, 1) := by decide +kernel
theorem d1_inScale_2 : decode c1_inScale 2 = .ok (.getfield 32, 3) := by decide +kernel
theorem d1_inScale_5 : decode c1_inScale 5 = .ok (.isub, 1) := by decide +kernel
theorem d1_inScale_6 : decode c1_inScale 6 = .ok (.bipush 12, 2) := by decide +kernel
theorem d1_inScale_8 : decode c1_inScale 8 = .ok (.invokestatic 69, 3) := by decide +kernel
theorem d1_inScale_11 : decode c1_inScale 11 = .ok (.istore_n 2, 1) := by decide +kernel
theorem d1_inScale_12 : decode c1_inScale 12 = .ok (.aload_n 0, 1) := by decide +kernel
theorem d1_inScale_13 : decode c1_inScale 13 = .ok (.getfield 36, 3) := by decide +kernel
theorem d1_inScale_16 : decode c1_inScale 16 = .ok (.iconst 1, 1) := by decide +kernel
theorem d1_inScale_17 : decode c1_inScale 17 = .ok (.if_icmp .ne 9, 3) := by decide +kernel
theorem d1_inScale_20 : decode c1_inScale 20 = .ok (.sipush 2477, 3) := by decide +kernel
theorem d1_inScale_23 : decode c1_inScale 23 = .ok (.goto 6, 3) := by decide +kernel
theorem d1_inScale_26 : decode c1_inScale 26 = .ok (.sipush 2741, 3) := by decide +kernel
theorem d1_inScale_29 : decode c1_inScale 29 = .ok (.istore_n 3, 1) := by decide +kernel
theorem d1_inScale_30 : decode c1_inScale 30 = .ok (.iload_n 3, 1) := by decide +kernel
theorem d1_inScale_31 : decode c1_inScale 31 = .ok (.iload_n 2, 1) := by decide +kernel
theorem d1_inScale_32 : decode c1_inScale 32 = .ok (.ishr, 1) := by decide +kernel
theorem d1_inScale_33 : decode c1_inScale 33 = .ok (.iconst 1, 1) := by decide +kernel
theorem d1_inScale_34 : decode c1_inScale 34 = .ok (.iand, 1) := by decide +kernel
theorem d1_inScale_35 : decode c1_inScale 35 = .ok (.iconst 1, 1) := by decide +kernel
theorem d1_inScale_36 : decode c1_inScale 36 = .ok (.if_icmp .ne 7, 3) := by decide +kernel
theorem d1_inScale_39 : decode c1_inScale 39 = .ok (.iconst 1, 1) := by decide +kernel
theorem d1_inScale_40 : decode c1_inScale 40 = .ok (.goto 4, 3) := by decide +kernel
theorem d1_inScale_43 : decode c1_inScale 43 = .ok (.iconst 0, 1) := by decide +kernel
theorem d1_inScale_44 : decode c1_inScale 44 = .ok (.ireturn, 1) := by decide +kernel
def t1_inScale (l : Launch) (Po : ri_O) : List ri_S := [i_il 1 1,
  i_al 2 0,
  i_get 3 1 0,
  i_bin 4 (fun x y => x - y),
  i_con 5 12,
  i_call 6 2 (ri_Ev l y14_floorMod w14_floorMod r14_floorMod 0 0) 0 0 0 0,
  i_is 7 2,
  i_al 8 0,
  i_get 9 1 1,
  i_con 10 1,
  i_icmp 11 13 (fun x y => ¬ x = y),
  i_con 12 2477,
  i_goto 14,
  i_con 14 2741,
  i_is 15 3,
  i_il 16 3,
  i_il 17 2,
  i_bin 18 (fun x y => x >>> (y &&& 31)),
  i_con 19 1,
  i_bin 20 (fun x y => x &&& y),
  i_con 21 1,
  i_icmp 22 24 (fun x y => ¬ x = y),
  i_con 23 1,
  i_goto 25,
  i_con 25 0,
  i_zret Po 0 0]
set_option maxRecDepth 20000 in
set_option maxHeartbeats 4000000 in
theorem z1_inScale (l : Launch) (Po : ri_O) (p : Program) (e : Env) (s : State) (m : MethodId) (args : Array Value) (below : List Frame) (meth : Method) (c : Code) (D : va_G) (ka : Nat → ClassId) (sa : Nat → Nat) (base : Nat) (X : ri_X p s m args c c1_inScale 4 w1_inScale "ChoraleSearch$Harmony" D ka sa base) (hret : meth.sig.returnType = (some .boolean)) (hlocks : meth.locks = false) (hname : meth.name = "inScale") : ri_clo (ri_W p l e r1_inScale s m args below meth c D ka sa base 4 (MQ below (ri_Qc D ka sa base Po) args s 0 0 (fun q => base ≤ q)) p1_inScale) (t1_inScale l Po) := by
  refine ri_clo_of ?_
  unfold t1_inScale
  exact ⟨s_iload_n X d1_inScale_0 rfl rfl,
    s_aload_n X d1_inScale_1 rfl rfl,
    s_get X (ci := 1) (f := 0) rfl (fun w h => List.mem_cons_of_mem _ (uC_1 w h)) (by decide) (List.mem_cons_of_mem _ mgw_115) d1_inScale_2 rfl,
    s_isub X d1_inScale_5 rfl,
    s_bipush X d1_inScale_6 rfl rfl,
    s_callS ri_NW_ok X ⟨ri_cB X 2 mgw_788 (List.mem_cons_of_mem _ mgw_13) (List.mem_cons_of_mem _ mgw_786) (by decide +kernel) rfl rfl ⟨by decide, by decide⟩, X.2.2.2.2.1 _ (List.mem_cons_of_mem _ mgw_787)⟩ d1_inScale_8 rfl,
    s_istore_n X d1_inScale_11 rfl (by decide) rfl,
    s_aload_n X d1_inScale_12 rfl rfl,
    s_get X (ci := 1) (f := 1) rfl (fun w h => List.mem_cons_of_mem _ (uC_1 w h)) (by decide) (List.mem_cons_of_mem _ mgw_117) d1_inScale_13 rfl,
    s_iconst X d1_inScale_16 rfl rfl,
    s_icmp_ne X d1_inScale_17 rfl rfl,
    s_sipush X d1_inScale_20 rfl rfl,
    s_goto X d1_inScale_23 rfl,
    s_sipush X d1_inScale_26 rfl rfl,
    s_istore_n X d1_inScale_29 rfl (by decide) rfl,
    s_iload_n X d1_inScale_30 rfl rfl,
    s_iload_n X d1_inScale_31 rfl rfl,
    s_ishr X d1_inScale_32 rfl,
    s_iconst X d1_inScale_33 rfl rfl,
    s_iand X d1_inScale_34 rfl,
    s_iconst X d1_inScale_35 rfl rfl,
    s_icmp_ne X d1_inScale_36 rfl rfl,
    s_iconst X d1_inScale_39 rfl rfl,
    s_goto X d1_inScale_40 rfl,
    s_iconst X d1_inScale_43 rfl rfl,
    s_zret X hret hlocks d1_inScale_44, trivial⟩
theorem d14_floorMod_0 : decode c14_floorMod 0 = .ok (.iload_n 0, 1) := by decide +kernel
theorem d14_floorMod_1 : decode c14_floorMod 1 = .ok (.iload_n 1, 1) := by decide +kernel
theorem d14_floorMod_2 : decode c14_floorMod 2 = .ok (.irem, 1) := by decide +kernel
theorem d14_floorMod_3 : decode c14_floorMod 3 = .ok (.istore_n 2, 1) := by decide +kernel
theorem d14_floorMod_4 : decode c14_floorMod 4 = .ok (.iload_n 0, 1) := by decide +kernel
theorem d14_floorMod_5 : decode c14_floorMod 5 = .ok (.iload_n 1, 1) := by decide +kernel
theorem d14_floorMod_6 : decode c14_floorMod 6 = .ok (.ixor, 1) := by decide +kernel
theorem d14_floorMod_7 : decode c14_floorMod 7 = .ok (.ifCond .ge 11, 3) := by decide +kernel
theorem d14_floorMod_10 : decode c14_floorMod 10 = .ok (.iload_n 2, 1) := by decide +kernel
theorem d14_floorMod_11 : decode c14_floorMod 11 = .ok (.ifCond .eq 7, 3) := by decide +kernel
theorem d14_floorMod_14 : decode c14_floorMod 14 = .ok (.iload_n 2, 1) := by decide +kernel
theorem d14_floorMod_15 : decode c14_floorMod 15 = .ok (.iload_n 1, 1) := by decide +kernel
theorem d14_floorMod_16 : decode c14_floorMod 16 = .ok (.iadd, 1) := by decide +kernel
theorem d14_floorMod_17 : decode c14_floorMod 17 = .ok (.ireturn, 1) := by decide +kernel
theorem d14_floorMod_18 : decode c14_floorMod 18 = .ok (.iload_n 2, 1) := by decide +kernel
theorem d14_floorMod_19 : decode c14_floorMod 19 = .ok (.ireturn, 1) := by decide +kernel
def t14_floorMod (l : Launch) (Po : ri_O) : List ri_S := [i_il 1 0,
  i_il 2 1,
  i_div 3 (fun x y => x - x / y * y),
  i_is 4 2,
  i_il 5 0,
  i_il 6 1,
  i_bin 7 (fun x y => x ^^^ y),
  i_if 8 14 (fun x => 0 ≤ x),
  i_il 9 2,
  i_if 10 14 (fun x => x = 0),
  i_il 11 2,
  i_il 12 1,
  i_bin 13 (fun x y => x + y),
  i_ret Po 0 0,
  i_il 15 2,
  i_ret Po 0 0]
set_option maxRecDepth 20000 in
set_option maxHeartbeats 4000000 in
theorem z14_floorMod (l : Launch) (Po : ri_O) (p : Program) (e : Env) (s : State) (m : MethodId) (args : Array Value) (below : List Frame) (meth : Method) (c : Code) (D : va_G) (ka : Nat → ClassId) (sa : Nat → Nat) (base : Nat) (X : ri_X p s m args c c14_floorMod 3 w14_floorMod "java/lang/Math" D ka sa base) (hret : meth.sig.returnType = (some .int)) (hlocks : meth.locks = false) (hname : meth.name = "floorMod") : ri_clo (ri_W p l e r14_floorMod s m args below meth c D ka sa base 3 (MQ below (ri_Qc D ka sa base Po) args s 0 0 (fun q => base ≤ q)) p14_floorMod) (t14_floorMod l Po) := by
  refine ri_clo_of ?_
  unfold t14_floorMod
  exact ⟨s_iload_n X d14_floorMod_0 rfl rfl,
    s_iload_n X d14_floorMod_1 rfl rfl,
    s_irem X d14_floorMod_2 rfl,
    s_istore_n X d14_floorMod_3 rfl (by decide) rfl,
    s_iload_n X d14_floorMod_4 rfl rfl,
    s_iload_n X d14_floorMod_5 rfl rfl,
    s_ixor X d14_floorMod_6 rfl,
    s_if_ge X d14_floorMod_7 rfl rfl,
    s_iload_n X d14_floorMod_10 rfl rfl,
    s_if_eq X d14_floorMod_11 rfl rfl,
    s_iload_n X d14_floorMod_14 rfl rfl,
    s_iload_n X d14_floorMod_15 rfl rfl,
    s_iadd X d14_floorMod_16 rfl,
    s_iret X hret hlocks d14_floorMod_17,
    s_iload_n X d14_floorMod_18 rfl rfl,
    s_iret X hret hlocks d14_floorMod_19, trivial⟩
theorem d13_bitCount_0 : decode c13_bitCount 0 = .ok (.iload_n 0, 1) := by decide +kernel
theorem d13_bitCount_1 : decode c13_bitCount 1 = .ok (.iload_n 0, 1) := by decide +kernel
theorem d13_bitCount_2 : decode c13_bitCount 2 = .ok (.iconst 1, 1) := by decide +kernel
theorem d13_bitCount_3 : decode c13_bitCount 3 = .ok (.iushr, 1) := by decide +kernel
theorem d13_bitCount_4 : decode c13_bitCount 4 = .ok (.ldc_w 265, 3) := by decide +kernel
theorem d13_bitCount_7 : decode c13_bitCount 7 = .ok (.iand, 1) := by decide +kernel
theorem d13_bitCount_8 : decode c13_bitCount 8 = .ok (.isub, 1) := by decide +kernel
theorem d13_bitCount_9 : decode c13_bitCount 9 = .ok (.istore_n 0, 1) := by decide +kernel
theorem d13_bitCount_10 : decode c13_bitCount 10 = .ok (.iload_n 0, 1) := by decide +kernel
theorem d13_bitCount_11 : decode c13_bitCount 11 = .ok (.ldc_w 266, 3) := by decide +kernel
theorem d13_bitCount_14 : decode c13_bitCount 14 = .ok (.iand, 1) := by decide +kernel
theorem d13_bitCount_15 : decode c13_bitCount 15 = .ok (.iload_n 0, 1) := by decide +kernel
theorem d13_bitCount_16 : decode c13_bitCount 16 = .ok (.iconst 2, 1) := by decide +kernel
theorem d13_bitCount_17 : decode c13_bitCount 17 = .ok (.iushr, 1) := by decide +kernel
theorem d13_bitCount_18 : decode c13_bitCount 18 = .ok (.ldc_w 266, 3) := by decide +kernel
theorem d13_bitCount_21 : decode c13_bitCount 21 = .ok (.iand, 1) := by decide +kernel
theorem d13_bitCount_22 : decode c13_bitCount 22 = .ok (.iadd, 1) := by decide +kernel
theorem d13_bitCount_23 : decode c13_bitCount 23 = .ok (.istore_n 0, 1) := by decide +kernel
theorem d13_bitCount_24 : decode c13_bitCount 24 = .ok (.iload_n 0, 1) := by decide +kernel
theorem d13_bitCount_25 : decode c13_bitCount 25 = .ok (.iload_n 0, 1) := by decide +kernel
theorem d13_bitCount_26 : decode c13_bitCount 26 = .ok (.iconst 4, 1) := by decide +kernel
theorem d13_bitCount_27 : decode c13_bitCount 27 = .ok (.iushr, 1) := by decide +kernel
theorem d13_bitCount_28 : decode c13_bitCount 28 = .ok (.iadd, 1) := by decide +kernel
theorem d13_bitCount_29 : decode c13_bitCount 29 = .ok (.ldc_w 267, 3) := by decide +kernel
theorem d13_bitCount_32 : decode c13_bitCount 32 = .ok (.iand, 1) := by decide +kernel
theorem d13_bitCount_33 : decode c13_bitCount 33 = .ok (.istore_n 0, 1) := by decide +kernel
theorem d13_bitCount_34 : decode c13_bitCount 34 = .ok (.iload_n 0, 1) := by decide +kernel
theorem d13_bitCount_35 : decode c13_bitCount 35 = .ok (.iload_n 0, 1) := by decide +kernel
theorem d13_bitCount_36 : decode c13_bitCount 36 = .ok (.bipush 8, 2) := by decide +kernel
theorem d13_bitCount_38 : decode c13_bitCount 38 = .ok (.iushr, 1) := by decide +kernel
theorem d13_bitCount_39 : decode c13_bitCount 39 = .ok (.iadd, 1) := by decide +kernel
theorem d13_bitCount_40 : decode c13_bitCount 40 = .ok (.istore_n 0, 1) := by decide +kernel
theorem d13_bitCount_41 : decode c13_bitCount 41 = .ok (.iload_n 0, 1) := by decide +kernel
theorem d13_bitCount_42 : decode c13_bitCount 42 = .ok (.iload_n 0, 1) := by decide +kernel
theorem d13_bitCount_43 : decode c13_bitCount 43 = .ok (.bipush 16, 2) := by decide +kernel
theorem d13_bitCount_45 : decode c13_bitCount 45 = .ok (.iushr, 1) := by decide +kernel
theorem d13_bitCount_46 : decode c13_bitCount 46 = .ok (.iadd, 1) := by decide +kernel
theorem d13_bitCount_47 : decode c13_bitCount 47 = .ok (.istore_n 0, 1) := by decide +kernel
theorem d13_bitCount_48 : decode c13_bitCount 48 = .ok (.iload_n 0, 1) := by decide +kernel
theorem d13_bitCount_49 : decode c13_bitCount 49 = .ok (.bipush 63, 2) := by decide +kernel
theorem d13_bitCount_51 : decode c13_bitCount 51 = .ok (.iand, 1) := by decide +kernel
theorem d13_bitCount_52 : decode c13_bitCount 52 = .ok (.ireturn, 1) := by decide +kernel
def t13_bitCount (l : Launch) (Po : ri_O) : List ri_S := [i_il 1 0,
  i_il 2 0,
  i_con 3 1,
  i_bin 4 (fun x y => (x.toUInt32 >>> (y.toUInt32 &&& Int32.toUInt32 31)).toInt32),
  i_con 5 1431655765,
  i_bin 6 (fun x y => x &&& y),
  i_bin 7 (fun x y => x - y),
  i_is 8 0,
  i_il 9 0,
  i_con 10 858993459,
  i_bin 11 (fun x y => x &&& y),
  i_il 12 0,
  i_con 13 2,
  i_bin 14 (fun x y => (x.toUInt32 >>> (y.toUInt32 &&& Int32.toUInt32 31)).toInt32),
  i_con 15 858993459,
  i_bin 16 (fun x y => x &&& y),
  i_bin 17 (fun x y => x + y),
  i_is 18 0,
  i_il 19 0,
  i_il 20 0,
  i_con 21 4,
  i_bin 22 (fun x y => (x.toUInt32 >>> (y.toUInt32 &&& Int32.toUInt32 31)).toInt32),
  i_bin 23 (fun x y => x + y),
  i_con 24 252645135,
  i_bin 25 (fun x y => x &&& y),
  i_is 26 0,
  i_il 27 0,
  i_il 28 0,
  i_con 29 8,
  i_bin 30 (fun x y => (x.toUInt32 >>> (y.toUInt32 &&& Int32.toUInt32 31)).toInt32),
  i_bin 31 (fun x y => x + y),
  i_is 32 0,
  i_il 33 0,
  i_il 34 0,
  i_con 35 16,
  i_bin 36 (fun x y => (x.toUInt32 >>> (y.toUInt32 &&& Int32.toUInt32 31)).toInt32),
  i_bin 37 (fun x y => x + y),
  i_is 38 0,
  i_il 39 0,
  i_con 40 63,
  i_bin 41 (fun x y => x &&& y),
  i_ret Po 0 0]
set_option maxRecDepth 20000 in
set_option maxHeartbeats 4000000 in
theorem z13_bitCount (l : Launch) (Po : ri_O) (p : Program) (e : Env) (s : State) (m : MethodId) (args : Array Value) (below : List Frame) (meth : Method) (c : Code) (D : va_G) (ka : Nat → ClassId) (sa : Nat → Nat) (base : Nat) (X : ri_X p s m args c c13_bitCount 1 w13_bitCount "java/lang/Integer" D ka sa base) (hret : meth.sig.returnType = (some .int)) (hlocks : meth.locks = false) (hname : meth.name = "bitCount") : ri_clo (ri_W p l e r13_bitCount s m args below meth c D ka sa base 1 (MQ below (ri_Qc D ka sa base Po) args s 0 0 (fun q => base ≤ q)) p13_bitCount) (t13_bitCount l Po) := by
  refine ri_clo_of ?_
  unfold t13_bitCount
  exact ⟨s_iload_n X d13_bitCount_0 rfl rfl,
    s_iload_n X d13_bitCount_1 rfl rfl,
    s_iconst X d13_bitCount_2 rfl rfl,
    s_iushr X d13_bitCount_3 rfl,
    s_ldcw X d13_bitCount_4 (List.mem_cons_of_mem _ mgw_800) rfl,
    s_iand X d13_bitCount_7 rfl,
    s_isub X d13_bitCount_8 rfl,
    s_istore_n X d13_bitCount_9 rfl (by decide) rfl,
    s_iload_n X d13_bitCount_10 rfl rfl,
    s_ldcw X d13_bitCount_11 (List.mem_cons_of_mem _ mgw_801) rfl,
    s_iand X d13_bitCount_14 rfl,
    s_iload_n X d13_bitCount_15 rfl rfl,
    s_iconst X d13_bitCount_16 rfl rfl,
    s_iushr X d13_bitCount_17 rfl,
    s_ldcw X d13_bitCount_18 (List.mem_cons_of_mem _ mgw_801) rfl,
    s_iand X d13_bitCount_21 rfl,
    s_iadd X d13_bitCount_22 rfl,
    s_istore_n X d13_bitCount_23 rfl (by decide) rfl,
    s_iload_n X d13_bitCount_24 rfl rfl,
    s_iload_n X d13_bitCount_25 rfl rfl,
    s_iconst X d13_bitCount_26 rfl rfl,
    s_iushr X d13_bitCount_27 rfl,
    s_iadd X d13_bitCount_28 rfl,
    s_ldcw X d13_bitCount_29 (List.mem_cons_of_mem _ mgw_802) rfl,
    s_iand X d13_bitCount_32 rfl,
    s_istore_n X d13_bitCount_33 rfl (by decide) rfl,
    s_iload_n X d13_bitCount_34 rfl rfl,
    s_iload_n X d13_bitCount_35 rfl rfl,
    s_bipush X d13_bitCount_36 rfl rfl,
    s_iushr X d13_bitCount_38 rfl,
    s_iadd X d13_bitCount_39 rfl,
    s_istore_n X d13_bitCount_40 rfl (by decide) rfl,
    s_iload_n X d13_bitCount_41 rfl rfl,
    s_iload_n X d13_bitCount_42 rfl rfl,
    s_bipush X d13_bitCount_43 rfl rfl,
    s_iushr X d13_bitCount_45 rfl,
    s_iadd X d13_bitCount_46 rfl,
    s_istore_n X d13_bitCount_47 rfl (by decide) rfl,
    s_iload_n X d13_bitCount_48 rfl rfl,
    s_bipush X d13_bitCount_49 rfl rfl,
    s_iand X d13_bitCount_51 rfl,
    s_iret X hret hlocks d13_bitCount_52, trivial⟩
