theorem d0_init_0 : decode c0_init 0 = .ok (.aload_n 0, 1) := by decide +kernel
theorem d0_init_1 : decode c0_init 1 = .ok (.invokespecial 3, 3) := by decide +kernel
theorem d0_init_4 : decode c0_init 4 = .ok (.aload_n 0, 1) := by decide +kernel
theorem d0_init_5 : decode c0_init 5 = .ok (.iconst 4, 1) := by decide +kernel
theorem d0_init_6 : decode c0_init 6 = .ok (.putfield 9, 3) := by decide +kernel
theorem d0_init_9 : decode c0_init 9 = .ok (.aload_n 0, 1) := by decide +kernel
theorem d0_init_10 : decode c0_init 10 = .ok (.sipush 255, 3) := by decide +kernel
theorem d0_init_13 : decode c0_init 13 = .ok (.putfield 15, 3) := by decide +kernel
theorem d0_init_16 : decode c0_init 16 = .ok (.aload_n 0, 1) := by decide +kernel
theorem d0_init_17 : decode c0_init 17 = .ok (.bipush 64, 2) := by decide +kernel
theorem d0_init_19 : decode c0_init 19 = .ok (.newarray .int, 2) := by decide +kernel
theorem d0_init_21 : decode c0_init 21 = .ok (.putfield 18, 3) := by decide +kernel
theorem d0_init_24 : decode c0_init 24 = .ok (.aload_n 0, 1) := by decide +kernel
theorem d0_init_25 : decode c0_init 25 = .ok (.bipush 16, 2) := by decide +kernel
theorem d0_init_27 : decode c0_init 27 = .ok (.newarray .int, 2) := by decide +kernel
theorem d0_init_29 : decode c0_init 29 = .ok (.putfield 22, 3) := by decide +kernel
theorem d0_init_32 : decode c0_init 32 = .ok (.aload_n 0, 1) := by decide +kernel
theorem d0_init_33 : decode c0_init 33 = .ok (.bipush 16, 2) := by decide +kernel
theorem d0_init_35 : decode c0_init 35 = .ok (.newarray .int, 2) := by decide +kernel
theorem d0_init_37 : decode c0_init 37 = .ok (.putfield 25, 3) := by decide +kernel
theorem d0_init_40 : decode c0_init 40 = .ok (.aload_n 0, 1) := by decide +kernel
theorem d0_init_41 : decode c0_init 41 = .ok (.bipush 16, 2) := by decide +kernel
theorem d0_init_43 : decode c0_init 43 = .ok (.newarray .boolean, 2) := by decide +kernel
theorem d0_init_45 : decode c0_init 45 = .ok (.putfield 28, 3) := by decide +kernel
theorem d0_init_48 : decode c0_init 48 = .ok (.aload_n 0, 1) := by decide +kernel
theorem d0_init_49 : decode c0_init 49 = .ok (.bipush 9, 2) := by decide +kernel
theorem d0_init_51 : decode c0_init 51 = .ok (.newarray .int, 2) := by decide +kernel
theorem d0_init_53 : decode c0_init 53 = .ok (.dup, 1) := by decide +kernel
theorem d0_init_54 : decode c0_init 54 = .ok (.iconst 0, 1) := by decide +kernel
theorem d0_init_55 : decode c0_init 55 = .ok (.iconst 1, 1) := by decide +kernel
theorem d0_init_56 : decode c0_init 56 = .ok (.iastore, 1) := by decide +kernel
theorem d0_init_57 : decode c0_init 57 = .ok (.dup, 1) := by decide +kernel
theorem d0_init_58 : decode c0_init 58 = .ok (.iconst 1, 1) := by decide +kernel
theorem d0_init_59 : decode c0_init 59 = .ok (.iconst 2, 1) := by decide +kernel
theorem d0_init_60 : decode c0_init 60 = .ok (.iastore, 1) := by decide +kernel
theorem d0_init_61 : decode c0_init 61 = .ok (.dup, 1) := by decide +kernel
theorem d0_init_62 : decode c0_init 62 = .ok (.iconst 2, 1) := by decide +kernel
theorem d0_init_63 : decode c0_init 63 = .ok (.iconst 2, 1) := by decide +kernel
theorem d0_init_64 : decode c0_init 64 = .ok (.iastore, 1) := by decide +kernel
theorem d0_init_65 : decode c0_init 65 = .ok (.dup, 1) := by decide +kernel
theorem d0_init_66 : decode c0_init 66 = .ok (.iconst 3, 1) := by decide +kernel
theorem d0_init_67 : decode c0_init 67 = .ok (.iconst 1, 1) := by decide +kernel
theorem d0_init_68 : decode c0_init 68 = .ok (.iastore, 1) := by decide +kernel
theorem d0_init_69 : decode c0_init 69 = .ok (.dup, 1) := by decide +kernel
theorem d0_init_70 : decode c0_init 70 = .ok (.iconst 4, 1) := by decide +kernel
theorem d0_init_71 : decode c0_init 71 = .ok (.iconst 1, 1) := by decide +kernel
theorem d0_init_72 : decode c0_init 72 = .ok (.iastore, 1) := by decide +kernel
theorem d0_init_73 : decode c0_init 73 = .ok (.dup, 1) := by decide +kernel
theorem d0_init_74 : decode c0_init 74 = .ok (.iconst 5, 1) := by decide +kernel
theorem d0_init_75 : decode c0_init 75 = .ok (.iconst 4, 1) := by decide +kernel
theorem d0_init_76 : decode c0_init 76 = .ok (.iastore, 1) := by decide +kernel
theorem d0_init_77 : decode c0_init 77 = .ok (.dup, 1) := by decide +kernel
theorem d0_init_78 : decode c0_init 78 = .ok (.bipush 6, 2) := by decide +kernel
theorem d0_init_80 : decode c0_init 80 = .ok (.iconst 2, 1) := by decide +kernel
theorem d0_init_81 : decode c0_init 81 = .ok (.iastore, 1) := by decide +kernel
theorem d0_init_82 : decode c0_init 82 = .ok (.dup, 1) := by decide +kernel
theorem d0_init_83 : decode c0_init 83 = .ok (.bipush 7, 2) := by decide +kernel
theorem d0_init_85 : decode c0_init 85 = .ok (.iconst 5, 1) := by decide +kernel
theorem d0_init_86 : decode c0_init 86 = .ok (.iastore, 1) := by decide +kernel
theorem d0_init_87 : decode c0_init 87 = .ok (.dup, 1) := by decide +kernel
theorem d0_init_88 : decode c0_init 88 = .ok (.bipush 8, 2) := by decide +kernel
theorem d0_init_90 : decode c0_init 90 = .ok (.iconst 2, 1) := by decide +kernel
theorem d0_init_91 : decode c0_init 91 = .ok (.iastore, 1) := by decide +kernel
theorem d0_init_92 : decode c0_init 92 = .ok (.putfield 32, 3) := by decide +kernel
theorem d0_init_95 : decode c0_init 95 = .ok (.aload_n 0, 1) := by decide +kernel
theorem d0_init_96 : decode c0_init 96 = .ok (.iconst 4, 1) := by decide +kernel
theorem d0_init_97 : decode c0_init 97 = .ok (.newarray .int, 2) := by decide +kernel
theorem d0_init_99 : decode c0_init 99 = .ok (.dup, 1) := by decide +kernel
theorem d0_init_100 : decode c0_init 100 = .ok (.iconst 0, 1) := by decide +kernel
theorem d0_init_101 : decode c0_init 101 = .ok (.bipush 60, 2) := by decide +kernel
theorem d0_init_103 : decode c0_init 103 = .ok (.iastore, 1) := by decide +kernel
theorem d0_init_104 : decode c0_init 104 = .ok (.dup, 1) := by decide +kernel
theorem d0_init_105 : decode c0_init 105 = .ok (.iconst 1, 1) := by decide +kernel
theorem d0_init_106 : decode c0_init 106 = .ok (.bipush 53, 2) := by decide +kernel
theorem d0_init_108 : decode c0_init 108 = .ok (.iastore, 1) := by decide +kernel
theorem d0_init_109 : decode c0_init 109 = .ok (.dup, 1) := by decide +kernel
theorem d0_init_110 : decode c0_init 110 = .ok (.iconst 2, 1) := by decide +kernel
theorem d0_init_111 : decode c0_init 111 = .ok (.bipush 48, 2) := by decide +kernel
theorem d0_init_113 : decode c0_init 113 = .ok (.iastore, 1) := by decide +kernel
theorem d0_init_114 : decode c0_init 114 = .ok (.dup, 1) := by decide +kernel
theorem d0_init_115 : decode c0_init 115 = .ok (.iconst 3, 1) := by decide +kernel
theorem d0_init_116 : decode c0_init 116 = .ok (.bipush 40, 2) := by decide +kernel
theorem d0_init_118 : decode c0_init 118 = .ok (.iastore, 1) := by decide +kernel
theorem d0_init_119 : decode c0_init 119 = .ok (.putfield 35, 3) := by decide +kernel
theorem d0_init_122 : decode c0_init 122 = .ok (.aload_n 0, 1) := by decide +kernel
theorem d0_init_123 : decode c0_init 123 = .ok (.iconst 4, 1) := by decide +kernel
theorem d0_init_124 : decode c0_init 124 = .ok (.newarray .int, 2) := by decide +kernel
theorem d0_init_126 : decode c0_init 126 = .ok (.dup, 1) := by decide +kernel
theorem d0_init_127 : decode c0_init 127 = .ok (.iconst 0, 1) := by decide +kernel
theorem d0_init_128 : decode c0_init 128 = .ok (.bipush 81, 2) := by decide +kernel
theorem d0_init_130 : decode c0_init 130 = .ok (.iastore, 1) := by decide +kernel
theorem d0_init_131 : decode c0_init 131 = .ok (.dup, 1) := by decide +kernel
theorem d0_init_132 : decode c0_init 132 = .ok (.iconst 1, 1) := by decide +kernel
theorem d0_init_133 : decode c0_init 133 = .ok (.bipush 74, 2) := by decide +kernel
theorem d0_init_135 : decode c0_init 135 = .ok (.iastore, 1) := by decide +kernel
theorem d0_init_136 : decode c0_init 136 = .ok (.dup, 1) := by decide +kernel
theorem d0_init_137 : decode c0_init 137 = .ok (.iconst 2, 1) := by decide +kernel
theorem d0_init_138 : decode c0_init 138 = .ok (.bipush 69, 2) := by decide +kernel
theorem d0_init_140 : decode c0_init 140 = .ok (.iastore, 1) := by decide +kernel
theorem d0_init_141 : decode c0_init 141 = .ok (.dup, 1) := by decide +kernel
theorem d0_init_142 : decode c0_init 142 = .ok (.iconst 3, 1) := by decide +kernel
theorem d0_init_143 : decode c0_init 143 = .ok (.bipush 62, 2) := by decide +kernel
theorem d0_init_145 : decode c0_init 145 = .ok (.iastore, 1) := by decide +kernel
theorem d0_init_146 : decode c0_init 146 = .ok (.putfield 38, 3) := by decide +kernel
theorem d0_init_149 : decode c0_init 149 = .ok (.aload_n 0, 1) := by decide +kernel
theorem d0_init_150 : decode c0_init 150 = .ok (.iconst 0, 1) := by decide +kernel
theorem d0_init_151 : decode c0_init 151 = .ok (.invokevirtual 41, 3) := by decide +kernel
theorem d0_init_154 : decode c0_init 154 = .ok (.return_, 1) := by decide +kernel
def t0_init (l : Launch) (Po : ri_O) : List ri_S := [i_al 1 0,
  i_oi 2 1 23,
  i_al 3 0,
  i_con 4 4,
  i_put 5 0 0 ri_isI,
  i_al 6 0,
  i_con 7 255,
  i_put 8 0 1 ri_isI,
  i_al 9 0,
  i_con 10 64,
  i_nwa 11 0 7 129,
  i_put 12 0 2 ri_isR,
  i_al 13 0,
  i_con 14 16,
  i_nwa 15 0 7 129,
  i_put 16 0 3 ri_isR,
  i_al 17 0,
  i_con 18 16,
  i_nwa 19 0 7 129,
  i_put 20 0 4 ri_isR,
  i_al 21 0,
  i_con 22 16,
  i_nwa 23 1 7 129,
  i_put 24 0 5 ri_isR,
  i_al 25 0,
  i_con 26 9,
  i_nwa 27 0 7 129,
  i_dup 28,
  i_con 29 0,
  i_con 30 1,
  i_ast 31 0 (fun x => x),
  i_dup 32,
  i_con 33 1,
  i_con 34 2,
  i_ast 35 0 (fun x => x),
  i_dup 36,
  i_con 37 2,
  i_con 38 2,
  i_ast 39 0 (fun x => x),
  i_dup 40,
  i_con 41 3,
  i_con 42 1,
  i_ast 43 0 (fun x => x),
  i_dup 44,
  i_con 45 4,
  i_con 46 1,
  i_ast 47 0 (fun x => x),
  i_dup 48,
  i_con 49 5,
  i_con 50 4,
  i_ast 51 0 (fun x => x),
  i_dup 52,
  i_con 53 6,
  i_con 54 2,
  i_ast 55 0 (fun x => x),
  i_dup 56,
  i_con 57 7,
  i_con 58 5,
  i_ast 59 0 (fun x => x),
  i_dup 60,
  i_con 61 8,
  i_con 62 2,
  i_ast 63 0 (fun x => x),
  i_put 64 0 6 ri_isR,
  i_al 65 0,
  i_con 66 4,
  i_nwa 67 0 7 129,
  i_dup 68,
  i_con 69 0,
  i_con 70 60,
  i_ast 71 0 (fun x => x),
  i_dup 72,
  i_con 73 1,
  i_con 74 53,
  i_ast 75 0 (fun x => x),
  i_dup 76,
  i_con 77 2,
  i_con 78 48,
  i_ast 79 0 (fun x => x),
  i_dup 80,
  i_con 81 3,
  i_con 82 40,
  i_ast 83 0 (fun x => x),
  i_put 84 0 7 ri_isR,
  i_al 85 0,
  i_con 86 4,
  i_nwa 87 0 7 129,
  i_dup 88,
  i_con 89 0,
  i_con 90 81,
  i_ast 91 0 (fun x => x),
  i_dup 92,
  i_con 93 1,
  i_con 94 74,
  i_ast 95 0 (fun x => x),
  i_dup 96,
  i_con 97 2,
  i_con 98 69,
  i_ast 99 0 (fun x => x),
  i_dup 100,
  i_con 101 3,
  i_con 102 62,
  i_ast 103 0 (fun x => x),
  i_put 104 0 8 ri_isR,
  i_al 105 0,
  i_con 106 0,
  i_callV 107 2 0 (ri_Ev l y0_clearFrom w0_clearFrom r0_clearFrom 0 0) 0 0 7 129,
  i_vret Po 7 129]
set_option maxRecDepth 20000 in
set_option maxHeartbeats 4000000 in
theorem z0_init (l : Launch) (Po : ri_O) (p : Program) (e : Env) (s : State) (m : MethodId) (args : Array Value) (below : List Frame) (meth : Method) (c : Code) (D : va_G) (ka : Nat → ClassId) (sa : Nat → Nat) (base : Nat) (X : ri_X p s m args c c0_init 1 w0_init "ChoraleSearch$Score" D ka sa base) (hret : meth.sig.returnType = none) (hlocks : meth.locks = false) (hname : meth.name = "<init>") : ri_clo (ri_W p l e r0_init s m args below meth c D ka sa base 1 (MQ below (ri_Qc D ka sa base Po) args s 7 129 (fun q => base ≤ q)) p0_init) (t0_init l Po) := by
  refine ri_clo_of ?_
  unfold t0_init
  exact ⟨s_aload_n X d0_init_0 rfl rfl,
    s_oi X (List.mem_cons_of_mem _ mgw_29) (List.mem_cons_of_mem _ mgw_22) (List.mem_cons_of_mem _ mgw_23) d0_init_1 rfl,
    s_aload_n X d0_init_4 rfl rfl,
    s_iconst X d0_init_5 rfl rfl,
    s_put X (ci := 0) (f := 0) rfl (fun w h => List.mem_cons_of_mem _ (uC_0 w h)) (by decide) tC_0 oC_0 nC_0 rfl ri_ok_int (List.mem_cons_of_mem _ mgw_34) d0_init_6 rfl,
    s_aload_n X d0_init_9 rfl rfl,
    s_sipush X d0_init_10 rfl rfl,
    s_put X (ci := 0) (f := 1) rfl (fun w h => List.mem_cons_of_mem _ (uC_0 w h)) (by decide) tC_0 oC_0 nC_0 rfl ri_ok_int (List.mem_cons_of_mem _ mgw_39) d0_init_13 rfl,
    s_aload_n X d0_init_16 rfl rfl,
    s_bipush X d0_init_17 rfl rfl,
    s_newi X rfl (List.mem_cons_of_mem _ mgw_78) d0_init_19 rfl,
    s_putF X (ci := 0) (f := 2) rfl (fun w h => List.mem_cons_of_mem _ (uC_0 w h)) (by decide) tC_0 oC_0 nC_0 rfl ri_ok_arr (List.mem_cons_of_mem _ mgw_41) hname rfl d0_init_21 rfl,
    s_aload_n X d0_init_24 rfl rfl,
    s_bipush X d0_init_25 rfl rfl,
    s_newi X rfl (List.mem_cons_of_mem _ mgw_78) d0_init_27 rfl,
    s_putF X (ci := 0) (f := 3) rfl (fun w h => List.mem_cons_of_mem _ (uC_0 w h)) (by decide) tC_0 oC_0 nC_0 rfl ri_ok_arr (List.mem_cons_of_mem _ mgw_44) hname rfl d0_init_29 rfl,
    s_aload_n X d0_init_32 rfl rfl,
    s_bipush X d0_init_33 rfl rfl,
    s_newi X rfl (List.mem_cons_of_mem _ mgw_78) d0_init_35 rfl,
    s_putF X (ci := 0) (f := 4) rfl (fun w h => List.mem_cons_of_mem _ (uC_0 w h)) (by decide) tC_0 oC_0 nC_0 rfl ri_ok_arr (List.mem_cons_of_mem _ mgw_46) hname rfl d0_init_37 rfl,
    s_aload_n X d0_init_40 rfl rfl,
    s_bipush X d0_init_41 rfl rfl,
    s_newz X rfl (List.mem_cons_of_mem _ mgw_79) d0_init_43 rfl,
    s_putF X (ci := 0) (f := 5) rfl (fun w h => List.mem_cons_of_mem _ (uC_0 w h)) (by decide) tC_0 oC_0 nC_0 rfl ri_ok_arr (List.mem_cons_of_mem _ mgw_49) hname rfl d0_init_45 rfl,
    s_aload_n X d0_init_48 rfl rfl,
    s_bipush X d0_init_49 rfl rfl,
    s_newi X rfl (List.mem_cons_of_mem _ mgw_78) d0_init_51 rfl,
    s_dup X d0_init_53 rfl,
    s_iconst X d0_init_54 rfl rfl,
    s_iconst X d0_init_55 rfl rfl,
    s_iast X rfl d0_init_56 rfl,
    s_dup X d0_init_57 rfl,
    s_iconst X d0_init_58 rfl rfl,
    s_iconst X d0_init_59 rfl rfl,
    s_iast X rfl d0_init_60 rfl,
    s_dup X d0_init_61 rfl,
    s_iconst X d0_init_62 rfl rfl,
    s_iconst X d0_init_63 rfl rfl,
    s_iast X rfl d0_init_64 rfl,
    s_dup X d0_init_65 rfl,
    s_iconst X d0_init_66 rfl rfl,
    s_iconst X d0_init_67 rfl rfl,
    s_iast X rfl d0_init_68 rfl,
    s_dup X d0_init_69 rfl,
    s_iconst X d0_init_70 rfl rfl,
    s_iconst X d0_init_71 rfl rfl,
    s_iast X rfl d0_init_72 rfl,
    s_dup X d0_init_73 rfl,
    s_iconst X d0_init_74 rfl rfl,
    s_iconst X d0_init_75 rfl rfl,
    s_iast X rfl d0_init_76 rfl,
    s_dup X d0_init_77 rfl,
    s_bipush X d0_init_78 rfl rfl,
    s_iconst X d0_init_80 rfl rfl,
    s_iast X rfl d0_init_81 rfl,
    s_dup X d0_init_82 rfl,
    s_bipush X d0_init_83 rfl rfl,
    s_iconst X d0_init_85 rfl rfl,
    s_iast X rfl d0_init_86 rfl,
    s_dup X d0_init_87 rfl,
    s_bipush X d0_init_88 rfl rfl,
    s_iconst X d0_init_90 rfl rfl,
    s_iast X rfl d0_init_91 rfl,
    s_putF X (ci := 0) (f := 6) rfl (fun w h => List.mem_cons_of_mem _ (uC_0 w h)) (by decide) tC_0 oC_0 nC_0 rfl ri_ok_arr (List.mem_cons_of_mem _ mgw_52) hname rfl d0_init_92 rfl,
    s_aload_n X d0_init_95 rfl rfl,
    s_iconst X d0_init_96 rfl rfl,
    s_newi X rfl (List.mem_cons_of_mem _ mgw_78) d0_init_97 rfl,
    s_dup X d0_init_99 rfl,
    s_iconst X d0_init_100 rfl rfl,
    s_bipush X d0_init_101 rfl rfl,
    s_iast X rfl d0_init_103 rfl,
    s_dup X d0_init_104 rfl,
    s_iconst X d0_init_105 rfl rfl,
    s_bipush X d0_init_106 rfl rfl,
    s_iast X rfl d0_init_108 rfl,
    s_dup X d0_init_109 rfl,
    s_iconst X d0_init_110 rfl rfl,
    s_bipush X d0_init_111 rfl rfl,
    s_iast X rfl d0_init_113 rfl,
    s_dup X d0_init_114 rfl,
    s_iconst X d0_init_115 rfl rfl,
    s_bipush X d0_init_116 rfl rfl,
    s_iast X rfl d0_init_118 rfl,
    s_putF X (ci := 0) (f := 7) rfl (fun w h => List.mem_cons_of_mem _ (uC_0 w h)) (by decide) tC_0 oC_0 nC_0 rfl ri_ok_arr (List.mem_cons_of_mem _ mgw_55) hname rfl d0_init_119 rfl,
    s_aload_n X d0_init_122 rfl rfl,
    s_iconst X d0_init_123 rfl rfl,
    s_newi X rfl (List.mem_cons_of_mem _ mgw_78) d0_init_124 rfl,
    s_dup X d0_init_126 rfl,
    s_iconst X d0_init_127 rfl rfl,
    s_bipush X d0_init_128 rfl rfl,
    s_iast X rfl d0_init_130 rfl,
    s_dup X d0_init_131 rfl,
    s_iconst X d0_init_132 rfl rfl,
    s_bipush X d0_init_133 rfl rfl,
    s_iast X rfl d0_init_135 rfl,
    s_dup X d0_init_136 rfl,
    s_iconst X d0_init_137 rfl rfl,
    s_bipush X d0_init_138 rfl rfl,
    s_iast X rfl d0_init_140 rfl,
    s_dup X d0_init_141 rfl,
    s_iconst X d0_init_142 rfl rfl,
    s_bipush X d0_init_143 rfl rfl,
    s_iast X rfl d0_init_145 rfl,
    s_putF X (ci := 0) (f := 8) rfl (fun w h => List.mem_cons_of_mem _ (uC_0 w h)) (by decide) tC_0 oC_0 nC_0 rfl ri_ok_arr (List.mem_cons_of_mem _ mgw_57) hname rfl d0_init_146 rfl,
    s_aload_n X d0_init_149 rfl rfl,
    s_iconst X d0_init_150 rfl rfl,
    s_callV ri_NW_ok X (na := 1) (ci := 0) rfl ⟨ri_cB X 1 mgw_33 (List.mem_cons_of_mem _ mgw_2) (List.mem_cons_of_mem _ mgw_30) (by decide +kernel) rfl rfl ⟨by decide, by decide⟩, X.2.2.2.2.1 _ (List.mem_cons_of_mem _ mgw_32), X.2.2.2.2.1 _ (List.mem_cons_of_mem _ mgp_0)⟩ d0_init_151 rfl,
    s_vret X hret hlocks d0_init_154, trivial⟩
theorem d0_clearFrom_0 : decode c0_clearFrom 0 = .ok (.iload_n 1, 1) := by decide +kernel
theorem d0_clearFrom_1 : decode c0_clearFrom 1 = .ok (.istore_n 2, 1) := by decide +kernel
theorem d0_clearFrom_2 : decode c0_clearFrom 2 = .ok (.iload_n 2, 1) := by decide +kernel
theorem d0_clearFrom_3 : decode c0_clearFrom 3 = .ok (.bipush 16, 2) := by decide +kernel
theorem d0_clearFrom_5 : decode c0_clearFrom 5 = .ok (.if_icmp .ge 57, 3) := by decide +kernel
theorem d0_clearFrom_8 : decode c0_clearFrom 8 = .ok (.iconst 0, 1) := by decide +kernel
theorem d0_clearFrom_9 : decode c0_clearFrom 9 = .ok (.istore_n 3, 1) := by decide +kernel
theorem d0_clearFrom_10 : decode c0_clearFrom 10 = .ok (.iload_n 3, 1) := by decide +kernel
theorem d0_clearFrom_11 : decode c0_clearFrom 11 = .ok (.iconst 4, 1) := by decide +kernel
theorem d0_clearFrom_12 : decode c0_clearFrom 12 = .ok (.if_icmp .ge 21, 3) := by decide +kernel
theorem d0_clearFrom_15 : decode c0_clearFrom 15 = .ok (.aload_n 0, 1) := by decide +kernel
theorem d0_clearFrom_16 : decode c0_clearFrom 16 = .ok (.getfield 18, 3) := by decide +kernel
theorem d0_clearFrom_19 : decode c0_clearFrom 19 = .ok (.iload_n 2, 1) := by decide +kernel
theorem d0_clearFrom_20 : decode c0_clearFrom 20 = .ok (.iconst 4, 1) := by decide +kernel
theorem d0_clearFrom_21 : decode c0_clearFrom 21 = .ok (.imul, 1) := by decide +kernel
theorem d0_clearFrom_22 : decode c0_clearFrom 22 = .ok (.iload_n 3, 1) := by decide +kernel
theorem d0_clearFrom_23 : decode c0_clearFrom 23 = .ok (.iadd, 1) := by decide +kernel
theorem d0_clearFrom_24 : decode c0_clearFrom 24 = .ok (.bipush (-2), 2) := by decide +kernel
theorem d0_clearFrom_26 : decode c0_clearFrom 26 = .ok (.iastore, 1) := by decide +kernel
theorem d0_clearFrom_27 : decode c0_clearFrom 27 = .ok (.iinc 3 1, 3) := by decide +kernel
theorem d0_clearFrom_30 : decode c0_clearFrom 30 = .ok (.goto (-20), 3) := by decide +kernel
theorem d0_clearFrom_33 : decode c0_clearFrom 33 = .ok (.aload_n 0, 1) := by decide +kernel
theorem d0_clearFrom_34 : decode c0_clearFrom 34 = .ok (.getfield 22, 3) := by decide +kernel
theorem d0_clearFrom_37 : decode c0_clearFrom 37 = .ok (.iload_n 2, 1) := by decide +kernel
theorem d0_clearFrom_38 : decode c0_clearFrom 38 = .ok (.bipush (-2), 2) := by decide +kernel
theorem d0_clearFrom_40 : decode c0_clearFrom 40 = .ok (.iastore, 1) := by decide +kernel
theorem d0_clearFrom_41 : decode c0_clearFrom 41 = .ok (.aload_n 0, 1) := by decide +kernel
theorem d0_clearFrom_42 : decode c0_clearFrom 42 = .ok (.getfield 25, 3) := by decide +kernel
theorem d0_clearFrom_45 : decode c0_clearFrom 45 = .ok (.iload_n 2, 1) := by decide +kernel
theorem d0_clearFrom_46 : decode c0_clearFrom 46 = .ok (.bipush (-2), 2) := by decide +kernel
theorem d0_clearFrom_48 : decode c0_clearFrom 48 = .ok (.iastore, 1) := by decide +kernel
theorem d0_clearFrom_49 : decode c0_clearFrom 49 = .ok (.aload_n 0, 1) := by decide +kernel
theorem d0_clearFrom_50 : decode c0_clearFrom 50 = .ok (.getfield 28, 3) := by decide +kernel
theorem d0_clearFrom_53 : decode c0_clearFrom 53 = .ok (.iload_n 2, 1) := by decide +kernel
theorem d0_clearFrom_54 : decode c0_clearFrom 54 = .ok (.iconst 0, 1) := by decide +kernel
theorem d0_clearFrom_55 : decode c0_clearFrom 55 = .ok (.bastore, 1) := by decide +kernel
theorem d0_clearFrom_56 : decode c0_clearFrom 56 = .ok (.iinc 2 1, 3) := by decide +kernel
theorem d0_clearFrom_59 : decode c0_clearFrom 59 = .ok (.goto (-57), 3) := by decide +kernel
theorem d0_clearFrom_62 : decode c0_clearFrom 62 = .ok (.return_, 1) := by decide +kernel
def t0_clearFrom (l : Launch) (Po : ri_O) : List ri_S := [i_il 1 1,
  i_is 2 2,
  i_il 3 2,
  i_con 4 16,
  i_icmp 5 38 (fun x y => y ≤ x),
  i_con 6 0,
  i_is 7 3,
  i_il 8 3,
  i_con 9 4,
  i_icmp 10 21 (fun x y => y ≤ x),
  i_al 11 0,
  i_get 12 0 2,
  i_il 13 2,
  i_con 14 4,
  i_bin 15 (fun x y => x * y),
  i_il 16 3,
  i_bin 17 (fun x y => x + y),
  i_con 18 (-2),
  i_ast 19 0 (fun x => x),
  i_inc 20 3 1,
  i_goto 7,
  i_al 22 0,
  i_get 23 0 3,
  i_il 24 2,
  i_con 25 (-2),
  i_ast 26 0 (fun x => x),
  i_al 27 0,
  i_get 28 0 4,
  i_il 29 2,
  i_con 30 (-2),
  i_ast 31 0 (fun x => x),
  i_al 32 0,
  i_get 33 0 5,
  i_il 34 2,
  i_con 35 0,
  i_ast 36 1 (fun x => vp_nar .boolean x),
  i_inc 37 2 1,
  i_goto 2,
  i_vret Po 0 0]
set_option maxRecDepth 20000 in
set_option maxHeartbeats 4000000 in
theorem z0_clearFrom (l : Launch) (Po : ri_O) (p : Program) (e : Env) (s : State) (m : MethodId) (args : Array Value) (below : List Frame) (meth : Method) (c : Code) (D : va_G) (ka : Nat → ClassId) (sa : Nat → Nat) (base : Nat) (X : ri_X p s m args c c0_clearFrom 4 w0_clearFrom "ChoraleSearch$Score" D ka sa base) (hret : meth.sig.returnType = none) (hlocks : meth.locks = false) (hname : meth.name = "clearFrom") : ri_clo (ri_W p l e r0_clearFrom s m args below meth c D ka sa base 4 (MQ below (ri_Qc D ka sa base Po) args s 0 0 (fun q => base ≤ q)) p0_clearFrom) (t0_clearFrom l Po) := by
  refine ri_clo_of ?_
  unfold t0_clearFrom
  exact ⟨s_iload_n X d0_clearFrom_0 rfl rfl,
    s_istore_n X d0_clearFrom_1 rfl (by decide) rfl,
    s_iload_n X d0_clearFrom_2 rfl rfl,
    s_bipush X d0_clearFrom_3 rfl rfl,
    s_icmp_ge X d0_clearFrom_5 rfl rfl,
    s_iconst X d0_clearFrom_8 rfl rfl,
    s_istore_n X d0_clearFrom_9 rfl (by decide) rfl,
    s_iload_n X d0_clearFrom_10 rfl rfl,
    s_iconst X d0_clearFrom_11 rfl rfl,
    s_icmp_ge X d0_clearFrom_12 rfl rfl,
    s_aload_n X d0_clearFrom_15 rfl rfl,
    s_get X (ci := 0) (f := 2) rfl (fun w h => List.mem_cons_of_mem _ (uC_0 w h)) (by decide) (List.mem_cons_of_mem _ mgw_41) d0_clearFrom_16 rfl,
    s_iload_n X d0_clearFrom_19 rfl rfl,
    s_iconst X d0_clearFrom_20 rfl rfl,
    s_imul X d0_clearFrom_21 rfl,
    s_iload_n X d0_clearFrom_22 rfl rfl,
    s_iadd X d0_clearFrom_23 rfl,
    s_bipush X d0_clearFrom_24 rfl rfl,
    s_iast X rfl d0_clearFrom_26 rfl,
    s_iinc X d0_clearFrom_27 rfl (by decide) rfl,
    s_goto X d0_clearFrom_30 rfl,
    s_aload_n X d0_clearFrom_33 rfl rfl,
    s_get X (ci := 0) (f := 3) rfl (fun w h => List.mem_cons_of_mem _ (uC_0 w h)) (by decide) (List.mem_cons_of_mem _ mgw_44) d0_clearFrom_34 rfl,
    s_iload_n X d0_clearFrom_37 rfl rfl,
    s_bipush X d0_clearFrom_38 rfl rfl,
    s_iast X rfl d0_clearFrom_40 rfl,
    s_aload_n X d0_clearFrom_41 rfl rfl,
    s_get X (ci := 0) (f := 4) rfl (fun w h => List.mem_cons_of_mem _ (uC_0 w h)) (by decide) (List.mem_cons_of_mem _ mgw_46) d0_clearFrom_42 rfl,
    s_iload_n X d0_clearFrom_45 rfl rfl,
    s_bipush X d0_clearFrom_46 rfl rfl,
    s_iast X rfl d0_clearFrom_48 rfl,
    s_aload_n X d0_clearFrom_49 rfl rfl,
    s_get X (ci := 0) (f := 5) rfl (fun w h => List.mem_cons_of_mem _ (uC_0 w h)) (by decide) (List.mem_cons_of_mem _ mgw_49) d0_clearFrom_50 rfl,
    s_iload_n X d0_clearFrom_53 rfl rfl,
    s_iconst X d0_clearFrom_54 rfl rfl,
    s_zast X rfl d0_clearFrom_55 rfl,
    s_iinc X d0_clearFrom_56 rfl (by decide) rfl,
    s_goto X d0_clearFrom_59 rfl,
    s_vret X hret hlocks d0_clearFrom_62, trivial⟩
theorem d0_lowAt_0 : decode c0_lowAt 0 = .ok (.aload_n 0, 1) := by decide +kernel
theorem d0_lowAt_1 : decode c0_lowAt 1 = .ok (.getfield 18, 3) := by decide +kernel
theorem d0_lowAt_4 : decode c0_lowAt 4 = .ok (.iload_n 2, 1) := by decide +kernel
theorem d0_lowAt_5 : decode c0_lowAt 5 = .ok (.iconst 4, 1) := by decide +kernel
theorem d0_lowAt_6 : decode c0_lowAt 6 = .ok (.imul, 1) := by decide +kernel
theorem d0_lowAt_7 : decode c0_lowAt 7 = .ok (.iload_n 1, 1) := by decide +kernel
theorem d0_lowAt_8 : decode c0_lowAt 8 = .ok (.iadd, 1) := by decide +kernel
theorem d0_lowAt_9 : decode c0_lowAt 9 = .ok (.iaload, 1) := by decide +kernel
theorem d0_lowAt_10 : decode c0_lowAt 10 = .ok (.istore_n 3, 1) := by decide +kernel
theorem d0_lowAt_11 : decode c0_lowAt 11 = .ok (.iload_n 3, 1) := by decide +kernel
theorem d0_lowAt_12 : decode c0_lowAt 12 = .ok (.bipush (-2), 2) := by decide +kernel
theorem d0_lowAt_14 : decode c0_lowAt 14 = .ok (.if_icmp .ne 12, 3) := by decide +kernel
theorem d0_lowAt_17 : decode c0_lowAt 17 = .ok (.aload_n 0, 1) := by decide +kernel
theorem d0_lowAt_18 : decode c0_lowAt 18 = .ok (.getfield 35, 3) := by decide +kernel
theorem d0_lowAt_21 : decode c0_lowAt 21 = .ok (.iload_n 1, 1) := by decide +kernel
theorem d0_lowAt_22 : decode c0_lowAt 22 = .ok (.iaload, 1) := by decide +kernel
theorem d0_lowAt_23 : decode c0_lowAt 23 = .ok (.goto 13, 3) := by decide +kernel
theorem d0_lowAt_26 : decode c0_lowAt 26 = .ok (.aload_n 0, 1) := by decide +kernel
theorem d0_lowAt_27 : decode c0_lowAt 27 = .ok (.getfield 35, 3) := by decide +kernel
theorem d0_lowAt_30 : decode c0_lowAt 30 = .ok (.iload_n 1, 1) := by decide +kernel
theorem d0_lowAt_31 : decode c0_lowAt 31 = .ok (.iaload, 1) := by decide +kernel
theorem d0_lowAt_32 : decode c0_lowAt 32 = .ok (.iload_n 3, 1) := by decide +kernel
theorem d0_lowAt_33 : decode c0_lowAt 33 = .ok (.invokestatic 45, 3) := by decide +kernel
theorem d0_lowAt_36 : decode c0_lowAt 36 = .ok (.ireturn, 1) := by decide +kernel
def t0_lowAt (l : Launch) (Po : ri_O) : List ri_S := [i_al 1 0,
  i_get 2 0 2,
  i_il 3 2,
  i_con 4 4,
  i_bin 5 (fun x y => x * y),
  i_il 6 1,
  i_bin 7 (fun x y => x + y),
  i_ald 8 0,
  i_is 9 3,
  i_il 10 3,
  i_con 11 (-2),
  i_icmp 12 17 (fun x y => ¬ x = y),
  i_al 13 0,
  i_get 14 0 7,
  i_il 15 1,
  i_ald 16 0,
  i_goto 23,
  i_al 18 0,
  i_get 19 0 7,
  i_il 20 1,
  i_ald 21 0,
  i_il 22 3,
  i_m2 23 (fun x y => if x < y then y else x) 1 21 0 0,
  i_ret Po 0 0]
set_option maxRecDepth 20000 in
set_option maxHeartbeats 4000000 in
theorem z0_lowAt (l : Launch) (Po : ri_O) (p : Program) (e : Env) (s : State) (m : MethodId) (args : Array Value) (below : List Frame) (meth : Method) (c : Code) (D : va_G) (ka : Nat → ClassId) (sa : Nat → Nat) (base : Nat) (X : ri_X p s m args c c0_lowAt 4 w0_lowAt "ChoraleSearch$Score" D ka sa base) (hret : meth.sig.returnType = (some .int)) (hlocks : meth.locks = false) (hname : meth.name = "lowAt") : ri_clo (ri_W p l e r0_lowAt s m args below meth c D ka sa base 4 (MQ below (ri_Qc D ka sa base Po) args s 0 0 (fun q => base ≤ q)) p0_lowAt) (t0_lowAt l Po) := by
  refine ri_clo_of ?_
  unfold t0_lowAt
  exact ⟨s_aload_n X d0_lowAt_0 rfl rfl,
    s_get X (ci := 0) (f := 2) rfl (fun w h => List.mem_cons_of_mem _ (uC_0 w h)) (by decide) (List.mem_cons_of_mem _ mgw_41) d0_lowAt_1 rfl,
    s_iload_n X d0_lowAt_4 rfl rfl,
    s_iconst X d0_lowAt_5 rfl rfl,
    s_imul X d0_lowAt_6 rfl,
    s_iload_n X d0_lowAt_7 rfl rfl,
    s_iadd X d0_lowAt_8 rfl,
    s_iald X rfl d0_lowAt_9 rfl,
    s_istore_n X d0_lowAt_10 rfl (by decide) rfl,
    s_iload_n X d0_lowAt_11 rfl rfl,
    s_bipush X d0_lowAt_12 rfl rfl,
    s_icmp_ne X d0_lowAt_14 rfl rfl,
    s_aload_n X d0_lowAt_17 rfl rfl,
    s_get X (ci := 0) (f := 7) rfl (fun w h => List.mem_cons_of_mem _ (uC_0 w h)) (by decide) (List.mem_cons_of_mem _ mgw_55) d0_lowAt_18 rfl,
    s_iload_n X d0_lowAt_21 rfl rfl,
    s_iald X rfl d0_lowAt_22 rfl,
    s_goto X d0_lowAt_23 rfl,
    s_aload_n X d0_lowAt_26 rfl rfl,
    s_get X (ci := 0) (f := 7) rfl (fun w h => List.mem_cons_of_mem _ (uC_0 w h)) (by decide) (List.mem_cons_of_mem _ mgw_55) d0_lowAt_27 rfl,
    s_iload_n X d0_lowAt_30 rfl rfl,
    s_iald X rfl d0_lowAt_31 rfl,
    s_iload_n X d0_lowAt_32 rfl rfl,
    s_max X (List.mem_cons_of_mem _ mgw_432) (List.mem_cons_of_mem _ mgw_433) (List.mem_cons_of_mem _ mgw_13) (List.mem_cons_of_mem _ mgw_434) d0_lowAt_33 rfl,
    s_iret X hret hlocks d0_lowAt_36, trivial⟩
theorem d0_highAt_0 : decode c0_highAt 0 = .ok (.aload_n 0, 1) := by decide +kernel
theorem d0_highAt_1 : decode c0_highAt 1 = .ok (.getfield 18, 3) := by decide +kernel
theorem d0_highAt_4 : decode c0_highAt 4 = .ok (.iload_n 2, 1) := by decide +kernel
theorem d0_highAt_5 : decode c0_highAt 5 = .ok (.iconst 4, 1) := by decide +kernel
theorem d0_highAt_6 : decode c0_highAt 6 = .ok (.imul, 1) := by decide +kernel
theorem d0_highAt_7 : decode c0_highAt 7 = .ok (.iload_n 1, 1) := by decide +kernel
theorem d0_highAt_8 : decode c0_highAt 8 = .ok (.iadd, 1) := by decide +kernel
theorem d0_highAt_9 : decode c0_highAt 9 = .ok (.iaload, 1) := by decide +kernel
theorem d0_highAt_10 : decode c0_highAt 10 = .ok (.istore_n 3, 1) := by decide +kernel
theorem d0_highAt_11 : decode c0_highAt 11 = .ok (.iload_n 3, 1) := by decide +kernel
theorem d0_highAt_12 : decode c0_highAt 12 = .ok (.bipush (-2), 2) := by decide +kernel
theorem d0_highAt_14 : decode c0_highAt 14 = .ok (.if_icmp .ne 12, 3) := by decide +kernel
theorem d0_highAt_17 : decode c0_highAt 17 = .ok (.aload_n 0, 1) := by decide +kernel
theorem d0_highAt_18 : decode c0_highAt 18 = .ok (.getfield 38, 3) := by decide +kernel
theorem d0_highAt_21 : decode c0_highAt 21 = .ok (.iload_n 1, 1) := by decide +kernel
theorem d0_highAt_22 : decode c0_highAt 22 = .ok (.iaload, 1) := by decide +kernel
theorem d0_highAt_23 : decode c0_highAt 23 = .ok (.goto 13, 3) := by decide +kernel
theorem d0_highAt_26 : decode c0_highAt 26 = .ok (.aload_n 0, 1) := by decide +kernel
theorem d0_highAt_27 : decode c0_highAt 27 = .ok (.getfield 38, 3) := by decide +kernel
theorem d0_highAt_30 : decode c0_highAt 30 = .ok (.iload_n 1, 1) := by decide +kernel
theorem d0_highAt_31 : decode c0_highAt 31 = .ok (.iaload, 1) := by decide +kernel
theorem d0_highAt_32 : decode c0_highAt 32 = .ok (.iload_n 3, 1) := by decide +kernel
theorem d0_highAt_33 : decode c0_highAt 33 = .ok (.invokestatic 51, 3) := by decide +kernel
theorem d0_highAt_36 : decode c0_highAt 36 = .ok (.ireturn, 1) := by decide +kernel
def t0_highAt (l : Launch) (Po : ri_O) : List ri_S := [i_al 1 0,
  i_get 2 0 2,
  i_il 3 2,
  i_con 4 4,
  i_bin 5 (fun x y => x * y),
  i_il 6 1,
  i_bin 7 (fun x y => x + y),
  i_ald 8 0,
  i_is 9 3,
  i_il 10 3,
  i_con 11 (-2),
  i_icmp 12 17 (fun x y => ¬ x = y),
  i_al 13 0,
  i_get 14 0 8,
  i_il 15 1,
  i_ald 16 0,
  i_goto 23,
  i_al 18 0,
  i_get 19 0 8,
  i_il 20 1,
  i_ald 21 0,
  i_il 22 3,
  i_m2 23 (fun x y => if y < x then y else x) 1 21 0 0,
  i_ret Po 0 0]
set_option maxRecDepth 20000 in
set_option maxHeartbeats 4000000 in
theorem z0_highAt (l : Launch) (Po : ri_O) (p : Program) (e : Env) (s : State) (m : MethodId) (args : Array Value) (below : List Frame) (meth : Method) (c : Code) (D : va_G) (ka : Nat → ClassId) (sa : Nat → Nat) (base : Nat) (X : ri_X p s m args c c0_highAt 4 w0_highAt "ChoraleSearch$Score" D ka sa base) (hret : meth.sig.returnType = (some .int)) (hlocks : meth.locks = false) (hname : meth.name = "highAt") : ri_clo (ri_W p l e r0_highAt s m args below meth c D ka sa base 4 (MQ below (ri_Qc D ka sa base Po) args s 0 0 (fun q => base ≤ q)) p0_highAt) (t0_highAt l Po) := by
  refine ri_clo_of ?_
  unfold t0_highAt
  exact ⟨s_aload_n X d0_highAt_0 rfl rfl,
    s_get X (ci := 0) (f := 2) rfl (fun w h => List.mem_cons_of_mem _ (uC_0 w h)) (by decide) (List.mem_cons_of_mem _ mgw_41) d0_highAt_1 rfl,
    s_iload_n X d0_highAt_4 rfl rfl,
    s_iconst X d0_highAt_5 rfl rfl,
    s_imul X d0_highAt_6 rfl,
    s_iload_n X d0_highAt_7 rfl rfl,
    s_iadd X d0_highAt_8 rfl,
    s_iald X rfl d0_highAt_9 rfl,
    s_istore_n X d0_highAt_10 rfl (by decide) rfl,
    s_iload_n X d0_highAt_11 rfl rfl,
    s_bipush X d0_highAt_12 rfl rfl,
    s_icmp_ne X d0_highAt_14 rfl rfl,
    s_aload_n X d0_highAt_17 rfl rfl,
    s_get X (ci := 0) (f := 8) rfl (fun w h => List.mem_cons_of_mem _ (uC_0 w h)) (by decide) (List.mem_cons_of_mem _ mgw_57) d0_highAt_18 rfl,
    s_iload_n X d0_highAt_21 rfl rfl,
    s_iald X rfl d0_highAt_22 rfl,
    s_goto X d0_highAt_23 rfl,
    s_aload_n X d0_highAt_26 rfl rfl,
    s_get X (ci := 0) (f := 8) rfl (fun w h => List.mem_cons_of_mem _ (uC_0 w h)) (by decide) (List.mem_cons_of_mem _ mgw_57) d0_highAt_27 rfl,
    s_iload_n X d0_highAt_30 rfl rfl,
    s_iald X rfl d0_highAt_31 rfl,
    s_iload_n X d0_highAt_32 rfl rfl,
    s_min X (List.mem_cons_of_mem _ mgw_439) (List.mem_cons_of_mem _ mgw_440) (List.mem_cons_of_mem _ mgw_13) (List.mem_cons_of_mem _ mgw_441) d0_highAt_33 rfl,
    s_iret X hret hlocks d0_highAt_36, trivial⟩
theorem d0_figuredChords_0 : decode c0_figuredChords 0 = .ok (.aload_n 0, 1) := by decide +kernel
theorem d0_figuredChords_1 : decode c0_figuredChords 1 = .ok (.getfield 22, 3) := by decide +kernel
theorem d0_figuredChords_4 : decode c0_figuredChords 4 = .ok (.iload_n 1, 1) := by decide +kernel
theorem d0_figuredChords_5 : decode c0_figuredChords 5 = .ok (.iaload, 1) := by decide +kernel
theorem d0_figuredChords_6 : decode c0_figuredChords 6 = .ok (.istore_n 2, 1) := by decide +kernel
theorem d0_figuredChords_7 : decode c0_figuredChords 7 = .ok (.iload_n 2, 1) := by decide +kernel
theorem d0_figuredChords_8 : decode c0_figuredChords 8 = .ok (.bipush (-2), 2) := by decide +kernel
theorem d0_figuredChords_10 : decode c0_figuredChords 10 = .ok (.if_icmp .ne 10, 3) := by decide +kernel
theorem d0_figuredChords_13 : decode c0_figuredChords 13 = .ok (.aload_n 0, 1) := by decide +kernel
theorem d0_figuredChords_14 : decode c0_figuredChords 14 = .ok (.getfield 15, 3) := by decide +kernel
theorem d0_figuredChords_17 : decode c0_figuredChords 17 = .ok (.goto 11, 3) := by decide +kernel
theorem d0_figuredChords_20 : decode c0_figuredChords 20 = .ok (.aload_n 0, 1) := by decide +kernel
theorem d0_figuredChords_21 : decode c0_figuredChords 21 = .ok (.getfield 15, 3) := by decide +kernel
theorem d0_figuredChords_24 : decode c0_figuredChords 24 = .ok (.iconst 1, 1) := by decide +kernel
theorem d0_figuredChords_25 : decode c0_figuredChords 25 = .ok (.iload_n 2, 1) := by decide +kernel
theorem d0_figuredChords_26 : decode c0_figuredChords 26 = .ok (.ishl, 1) := by decide +kernel
theorem d0_figuredChords_27 : decode c0_figuredChords 27 = .ok (.iand, 1) := by decide +kernel
theorem d0_figuredChords_28 : decode c0_figuredChords 28 = .ok (.ireturn, 1) := by decide +kernel
def t0_figuredChords (l : Launch) (Po : ri_O) : List ri_S := [i_al 1 0,
  i_get 2 0 3,
  i_il 3 1,
  i_ald 4 0,
  i_is 5 2,
  i_il 6 2,
  i_con 7 (-2),
  i_icmp 8 11 (fun x y => ¬ x = y),
  i_al 9 0,
  i_get 10 0 1,
  i_goto 17,
  i_al 12 0,
  i_get 13 0 1,
  i_con 14 1,
  i_il 15 2,
  i_bin 16 (fun x y => x <<< (y &&& 31)),
  i_bin 17 (fun x y => x &&& y),
  i_ret Po 0 0]
set_option maxRecDepth 20000 in
set_option maxHeartbeats 4000000 in
theorem z0_figuredChords (l : Launch) (Po : ri_O) (p : Program) (e : Env) (s : State) (m : MethodId) (args : Array Value) (below : List Frame) (meth : Method) (c : Code) (D : va_G) (ka : Nat → ClassId) (sa : Nat → Nat) (base : Nat) (X : ri_X p s m args c c0_figuredChords 3 w0_figuredChords "ChoraleSearch$Score" D ka sa base) (hret : meth.sig.returnType = (some .int)) (hlocks : meth.locks = false) (hname : meth.name = "figuredChords") : ri_clo (ri_W p l e r0_figuredChords s m args below meth c D ka sa base 3 (MQ below (ri_Qc D ka sa base Po) args s 0 0 (fun q => base ≤ q)) p0_figuredChords) (t0_figuredChords l Po) := by
  refine ri_clo_of ?_
  unfold t0_figuredChords
  exact ⟨s_aload_n X d0_figuredChords_0 rfl rfl,
    s_get X (ci := 0) (f := 3) rfl (fun w h => List.mem_cons_of_mem _ (uC_0 w h)) (by decide) (List.mem_cons_of_mem _ mgw_44) d0_figuredChords_1 rfl,
    s_iload_n X d0_figuredChords_4 rfl rfl,
    s_iald X rfl d0_figuredChords_5 rfl,
    s_istore_n X d0_figuredChords_6 rfl (by decide) rfl,
    s_iload_n X d0_figuredChords_7 rfl rfl,
    s_bipush X d0_figuredChords_8 rfl rfl,
    s_icmp_ne X d0_figuredChords_10 rfl rfl,
    s_aload_n X d0_figuredChords_13 rfl rfl,
    s_get X (ci := 0) (f := 1) rfl (fun w h => List.mem_cons_of_mem _ (uC_0 w h)) (by decide) (List.mem_cons_of_mem _ mgw_39) d0_figuredChords_14 rfl,
    s_goto X d0_figuredChords_17 rfl,
    s_aload_n X d0_figuredChords_20 rfl rfl,
    s_get X (ci := 0) (f := 1) rfl (fun w h => List.mem_cons_of_mem _ (uC_0 w h)) (by decide) (List.mem_cons_of_mem _ mgw_39) d0_figuredChords_21 rfl,
    s_iconst X d0_figuredChords_24 rfl rfl,
    s_iload_n X d0_figuredChords_25 rfl rfl,
    s_ishl X d0_figuredChords_26 rfl,
    s_iand X d0_figuredChords_27 rfl,
    s_iret X hret hlocks d0_figuredChords_28, trivial⟩
theorem d0_isLast_0 : decode c0_isLast 0 = .ok (.iload_n 1, 1) := by decide +kernel
theorem d0_isLast_1 : decode c0_isLast 1 = .ok (.aload_n 0, 1) := by decide +kernel
theorem d0_isLast_2 : decode c0_isLast 2 = .ok (.getfield 9, 3) := by decide +kernel
theorem d0_isLast_5 : decode c0_isLast 5 = .ok (.iconst 1, 1) := by decide +kernel
theorem d0_isLast_6 : decode c0_isLast 6 = .ok (.isub, 1) := by decide +kernel
theorem d0_isLast_7 : decode c0_isLast 7 = .ok (.if_icmp .ne 7, 3) := by decide +kernel
theorem d0_isLast_10 : decode c0_isLast 10 = .ok (.iconst 1, 1) := by decide +kernel
theorem d0_isLast_11 : decode c0_isLast 11 = .ok (.goto 4, 3) := by decide +kernel
theorem d0_isLast_14 : decode c0_isLast 14 = .ok (.iconst 0, 1) := by decide +kernel
theorem d0_isLast_15 : decode c0_isLast 15 = .ok (.ireturn, 1) := by decide +kernel
def t0_isLast (l : Launch) (Po : ri_O) : List ri_S := [i_il 1 1,
  i_al 2 0,
  i_get 3 0 0,
  i_con 4 1,
  i_bin 5 (fun x y => x - y),
  i_icmp 6 8 (fun x y => ¬ x = y),
  i_con 7 1,
  i_goto 9,
  i_con 9 0,
  i_zret Po 0 0]
set_option maxRecDepth 20000 in
set_option maxHeartbeats 4000000 in
theorem z0_isLast (l : Launch) (Po : ri_O) (p : Program) (e : Env) (s : State) (m : MethodId) (args : Array Value) (below : List Frame) (meth : Method) (c : Code) (D : va_G) (ka : Nat → ClassId) (sa : Nat → Nat) (base : Nat) (X : ri_X p s m args c c0_isLast 2 w0_isLast "ChoraleSearch$Score" D ka sa base) (hret : meth.sig.returnType = (some .boolean)) (hlocks : meth.locks = false) (hname : meth.name = "isLast") : ri_clo (ri_W p l e r0_isLast s m args below meth c D ka sa base 2 (MQ below (ri_Qc D ka sa base Po) args s 0 0 (fun q => base ≤ q)) p0_isLast) (t0_isLast l Po) := by
  refine ri_clo_of ?_
  unfold t0_isLast
  exact ⟨s_iload_n X d0_isLast_0 rfl rfl,
    s_aload_n X d0_isLast_1 rfl rfl,
    s_get X (ci := 0) (f := 0) rfl (fun w h => List.mem_cons_of_mem _ (uC_0 w h)) (by decide) (List.mem_cons_of_mem _ mgw_34) d0_isLast_2 rfl,
    s_iconst X d0_isLast_5 rfl rfl,
    s_isub X d0_isLast_6 rfl,
    s_icmp_ne X d0_isLast_7 rfl rfl,
    s_iconst X d0_isLast_10 rfl rfl,
    s_goto X d0_isLast_11 rfl,
    s_iconst X d0_isLast_14 rfl rfl,
    s_zret X hret hlocks d0_isLast_15, trivial⟩
theorem d0_givenNotes_0 : decode c0_givenNotes 0 = .ok (.iconst 0, 1) := by decide +kernel
theorem d0_givenNotes_1 : decode c0_givenNotes 1 = .ok (.istore_n 1, 1) := by decide +kernel
theorem d0_givenNotes_2 : decode c0_givenNotes 2 = .ok (.aload_n 0, 1) := by decide +kernel
theorem d0_givenNotes_3 : decode c0_givenNotes 3 = .ok (.getfield 18, 3) := by decide +kernel
theorem d0_givenNotes_6 : decode c0_givenNotes 6 = .ok (.astore_n 2, 1) := by decide +kernel
theorem d0_givenNotes_7 : decode c0_givenNotes 7 = .ok (.aload_n 2, 1) := by decide +kernel
theorem d0_givenNotes_8 : decode c0_givenNotes 8 = .ok (.arraylength, 1) := by decide +kernel
theorem d0_givenNotes_9 : decode c0_givenNotes 9 = .ok (.istore_n 3, 1) := by decide +kernel
theorem d0_givenNotes_10 : decode c0_givenNotes 10 = .ok (.iconst 0, 1) := by decide +kernel
theorem d0_givenNotes_11 : decode c0_givenNotes 11 = .ok (.istore 4, 2) := by decide +kernel
theorem d0_givenNotes_13 : decode c0_givenNotes 13 = .ok (.iload 4, 2) := by decide +kernel
theorem d0_givenNotes_15 : decode c0_givenNotes 15 = .ok (.iload_n 3, 1) := by decide +kernel
theorem d0_givenNotes_16 : decode c0_givenNotes 16 = .ok (.if_icmp .ge 25, 3) := by decide +kernel
theorem d0_givenNotes_19 : decode c0_givenNotes 19 = .ok (.aload_n 2, 1) := by decide +kernel
theorem d0_givenNotes_20 : decode c0_givenNotes 20 = .ok (.iload 4, 2) := by decide +kernel
theorem d0_givenNotes_22 : decode c0_givenNotes 22 = .ok (.iaload, 1) := by decide +kernel
theorem d0_givenNotes_23 : decode c0_givenNotes 23 = .ok (.istore 5, 2) := by decide +kernel
theorem d0_givenNotes_25 : decode c0_givenNotes 25 = .ok (.iload 5, 2) := by decide +kernel
theorem d0_givenNotes_27 : decode c0_givenNotes 27 = .ok (.bipush (-2), 2) := by decide +kernel
theorem d0_givenNotes_29 : decode c0_givenNotes 29 = .ok (.if_icmp .eq 6, 3) := by decide +kernel
theorem d0_givenNotes_32 : decode c0_givenNotes 32 = .ok (.iinc 1 1, 3) := by decide +kernel
theorem d0_givenNotes_35 : decode c0_givenNotes 35 = .ok (.iinc 4 1, 3) := by decide +kernel
theorem d0_givenNotes_38 : decode c0_givenNotes 38 = .ok (.goto (-25), 3) := by decide +kernel
theorem d0_givenNotes_41 : decode c0_givenNotes 41 = .ok (.iload_n 1, 1) := by decide +kernel
theorem d0_givenNotes_42 : decode c0_givenNotes 42 = .ok (.ireturn, 1) := by decide +kernel
def t0_givenNotes (l : Launch) (Po : ri_O) : List ri_S := [i_con 1 0,
  i_is 2 1,
  i_al 3 0,
  i_get 4 0 2,
  i_as 5 2,
  i_al 6 2,
  i_alen 7,
  i_is 8 3,
  i_con 9 0,
  i_is 10 4,
  i_il 11 4,
  i_il 12 3,
  i_icmp 13 23 (fun x y => y ≤ x),
  i_al 14 2,
  i_il 15 4,
  i_ald 16 0,
  i_is 17 5,
  i_il 18 5,
  i_con 19 (-2),
  i_icmp 20 21 (fun x y => x = y),
  i_inc 21 1 1,
  i_inc 22 4 1,
  i_goto 10,
  i_il 24 1,
  i_ret Po 0 0]
set_option maxRecDepth 20000 in
set_option maxHeartbeats 4000000 in
theorem z0_givenNotes (l : Launch) (Po : ri_O) (p : Program) (e : Env) (s : State) (m : MethodId) (args : Array Value) (below : List Frame) (meth : Method) (c : Code) (D : va_G) (ka : Nat → ClassId) (sa : Nat → Nat) (base : Nat) (X : ri_X p s m args c c0_givenNotes 6 w0_givenNotes "ChoraleSearch$Score" D ka sa base) (hret : meth.sig.returnType = (some .int)) (hlocks : meth.locks = false) (hname : meth.name = "givenNotes") : ri_clo (ri_W p l e r0_givenNotes s m args below meth c D ka sa base 6 (MQ below (ri_Qc D ka sa base Po) args s 0 0 (fun q => base ≤ q)) p0_givenNotes) (t0_givenNotes l Po) := by
  refine ri_clo_of ?_
  unfold t0_givenNotes
  exact ⟨s_iconst X d0_givenNotes_0 rfl rfl,
    s_istore_n X d0_givenNotes_1 rfl (by decide) rfl,
    s_aload_n X d0_givenNotes_2 rfl rfl,
    s_get X (ci := 0) (f := 2) rfl (fun w h => List.mem_cons_of_mem _ (uC_0 w h)) (by decide) (List.mem_cons_of_mem _ mgw_41) d0_givenNotes_3 rfl,
    s_astore_n X d0_givenNotes_6 rfl (by decide) rfl,
    s_aload_n X d0_givenNotes_7 rfl rfl,
    s_alen X ri_kt_all d0_givenNotes_8 rfl,
    s_istore_n X d0_givenNotes_9 rfl (by decide) rfl,
    s_iconst X d0_givenNotes_10 rfl rfl,
    s_istore X d0_givenNotes_11 (by decide) rfl,
    s_iload X d0_givenNotes_13 rfl,
    s_iload_n X d0_givenNotes_15 rfl rfl,
    s_icmp_ge X d0_givenNotes_16 rfl rfl,
    s_aload_n X d0_givenNotes_19 rfl rfl,
    s_iload X d0_givenNotes_20 rfl,
    s_iald X rfl d0_givenNotes_22 rfl,
    s_istore X d0_givenNotes_23 (by decide) rfl,
    s_iload X d0_givenNotes_25 rfl,
    s_bipush X d0_givenNotes_27 rfl rfl,
    s_icmp_eq X d0_givenNotes_29 rfl rfl,
    s_iinc X d0_givenNotes_32 rfl (by decide) rfl,
    s_iinc X d0_givenNotes_35 rfl (by decide) rfl,
    s_goto X d0_givenNotes_38 rfl,
    s_iload_n X d0_givenNotes_41 rfl rfl,
    s_iret X hret hlocks d0_givenNotes_42, trivial⟩
