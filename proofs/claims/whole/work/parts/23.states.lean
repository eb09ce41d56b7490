theorem d2_init_0 : decode c2_init 0 = .ok (.aload_n 0, 1) := by decide +kernel
theorem d2_init_1 : decode c2_init 1 = .ok (.invokespecial 3, 3) := by decide +kernel
theorem d2_init_4 : decode c2_init 4 = .ok (.aload_n 0, 1) := by decide +kernel
theorem d2_init_5 : decode c2_init 5 = .ok (.iconst 4, 1) := by decide +kernel
theorem d2_init_6 : decode c2_init 6 = .ok (.newarray .int, 2) := by decide +kernel
theorem d2_init_8 : decode c2_init 8 = .ok (.putfield 9, 3) := by decide +kernel
theorem d2_init_11 : decode c2_init 11 = .ok (.aload_n 0, 1) := by decide +kernel
theorem d2_init_12 : decode c2_init 12 = .ok (.iconst 4, 1) := by decide +kernel
theorem d2_init_13 : decode c2_init 13 = .ok (.newarray .int, 2) := by decide +kernel
theorem d2_init_15 : decode c2_init 15 = .ok (.putfield 15, 3) := by decide +kernel
theorem d2_init_18 : decode c2_init 18 = .ok (.aload_n 0, 1) := by decide +kernel
theorem d2_init_19 : decode c2_init 19 = .ok (.iconst 4, 1) := by decide +kernel
theorem d2_init_20 : decode c2_init 20 = .ok (.newarray .int, 2) := by decide +kernel
theorem d2_init_22 : decode c2_init 22 = .ok (.putfield 18, 3) := by decide +kernel
theorem d2_init_25 : decode c2_init 25 = .ok (.aload_n 0, 1) := by decide +kernel
theorem d2_init_26 : decode c2_init 26 = .ok (.aload_n 1, 1) := by decide +kernel
theorem d2_init_27 : decode c2_init 27 = .ok (.putfield 21, 3) := by decide +kernel
theorem d2_init_30 : decode c2_init 30 = .ok (.aload_n 0, 1) := by decide +kernel
theorem d2_init_31 : decode c2_init 31 = .ok (.aload_n 2, 1) := by decide +kernel
theorem d2_init_32 : decode c2_init 32 = .ok (.putfield 25, 3) := by decide +kernel
theorem d2_init_35 : decode c2_init 35 = .ok (.return_, 1) := by decide +kernel
def t2_init (l : Launch) (Po : ri_O) : List ri_S := [i_al 1 0,
  i_oi 2 1 20,
  i_al 3 0,
  i_con 4 4,
  i_nwa 5 0 3 12,
  i_put 6 2 2 ri_isR,
  i_al 7 0,
  i_con 8 4,
  i_nwa 9 0 3 12,
  i_put 10 2 3 ri_isR,
  i_al 11 0,
  i_con 12 4,
  i_nwa 13 0 3 12,
  i_put 14 2 4 ri_isR,
  i_al 15 0,
  i_al 16 1,
  i_put 17 2 0 ri_isR,
  i_al 18 0,
  i_al 19 2,
  i_put 20 2 1 ri_isR,
  i_vret Po 3 12]
set_option maxRecDepth 20000 in
set_option maxHeartbeats 4000000 in
theorem z2_init (l : Launch) (Po : ri_O) (p : Program) (e : Env) (s : State) (m : MethodId) (args : Array Value) (below : List Frame) (meth : Method) (c : Code) (D : va_G) (ka : Nat → ClassId) (sa : Nat → Nat) (base : Nat) (X : ri_X p s m args c c2_init 3 w2_init "ChoraleSearch$StateRules" D ka sa base) (hret : meth.sig.returnType = none) (hlocks : meth.locks = false) (hname : meth.name = "<init>") : ri_clo (ri_W p l e r2_init s m args below meth c D ka sa base 3 (MQ below (ri_Qc D ka sa base Po) args s 3 12 (fun q => base ≤ q)) p2_init) (t2_init l Po) := by
  refine ri_clo_of ?_
  unfold t2_init
  exact ⟨s_aload_n X d2_init_0 rfl rfl,
    s_oi X (List.mem_cons_of_mem _ mgw_146) (List.mem_cons_of_mem _ mgw_22) (List.mem_cons_of_mem _ mgw_23) d2_init_1 rfl,
    s_aload_n X d2_init_4 rfl rfl,
    s_iconst X d2_init_5 rfl rfl,
    s_newi X rfl (List.mem_cons_of_mem _ mgw_78) d2_init_6 rfl,
    s_putF X (ci := 2) (f := 2) rfl (fun w h => List.mem_cons_of_mem _ (uC_2 w h)) (by decide) tC_2 oC_2 nC_2 rfl ri_ok_arr (List.mem_cons_of_mem _ mgw_149) hname rfl d2_init_8 rfl,
    s_aload_n X d2_init_11 rfl rfl,
    s_iconst X d2_init_12 rfl rfl,
    s_newi X rfl (List.mem_cons_of_mem _ mgw_78) d2_init_13 rfl,
    s_putF X (ci := 2) (f := 3) rfl (fun w h => List.mem_cons_of_mem _ (uC_2 w h)) (by decide) tC_2 oC_2 nC_2 rfl ri_ok_arr (List.mem_cons_of_mem _ mgw_150) hname rfl d2_init_15 rfl,
    s_aload_n X d2_init_18 rfl rfl,
    s_iconst X d2_init_19 rfl rfl,
    s_newi X rfl (List.mem_cons_of_mem _ mgw_78) d2_init_20 rfl,
    s_putF X (ci := 2) (f := 4) rfl (fun w h => List.mem_cons_of_mem _ (uC_2 w h)) (by decide) tC_2 oC_2 nC_2 rfl ri_ok_arr (List.mem_cons_of_mem _ mgw_151) hname rfl d2_init_22 rfl,
    s_aload_n X d2_init_25 rfl rfl,
    s_aload_n X d2_init_26 rfl rfl,
    s_putF X (ci := 2) (f := 0) rfl (fun w h => List.mem_cons_of_mem _ (uC_2 w h)) (by decide) tC_2 oC_2 nC_2 rfl ri_ok_ref (List.mem_cons_of_mem _ mgw_147) hname rfl d2_init_27 rfl,
    s_aload_n X d2_init_30 rfl rfl,
    s_aload_n X d2_init_31 rfl rfl,
    s_putF X (ci := 2) (f := 1) rfl (fun w h => List.mem_cons_of_mem _ (uC_2 w h)) (by decide) tC_2 oC_2 nC_2 rfl ri_ok_ref (List.mem_cons_of_mem _ mgw_148) hname rfl d2_init_32 rfl,
    s_vret X hret hlocks d2_init_35, trivial⟩
theorem d2_fill_0 : decode c2_fill 0 = .ok (.aload_n 1, 1) := by decide +kernel
theorem d2_fill_1 : decode c2_fill 1 = .ok (.iconst 0, 1) := by decide +kernel
theorem d2_fill_2 : decode c2_fill 2 = .ok (.putfield 29, 3) := by decide +kernel
theorem d2_fill_5 : decode c2_fill 5 = .ok (.aload_n 0, 1) := by decide +kernel
theorem d2_fill_6 : decode c2_fill 6 = .ok (.iload_n 2, 1) := by decide +kernel
theorem d2_fill_7 : decode c2_fill 7 = .ok (.invokevirtual 35, 3) := by decide +kernel
theorem d2_fill_10 : decode c2_fill 10 = .ok (.aload_n 0, 1) := by decide +kernel
theorem d2_fill_11 : decode c2_fill 11 = .ok (.getfield 21, 3) := by decide +kernel
theorem d2_fill_14 : decode c2_fill 14 = .ok (.iload_n 2, 1) := by decide +kernel
theorem d2_fill_15 : decode c2_fill 15 = .ok (.invokevirtual 39, 3) := by decide +kernel
theorem d2_fill_18 : decode c2_fill 18 = .ok (.aload_n 0, 1) := by decide +kernel
theorem d2_fill_19 : decode c2_fill 19 = .ok (.iload_n 2, 1) := by decide +kernel
theorem d2_fill_20 : decode c2_fill 20 = .ok (.invokevirtual 45, 3) := by decide +kernel
theorem d2_fill_23 : decode c2_fill 23 = .ok (.iand, 1) := by decide +kernel
theorem d2_fill_24 : decode c2_fill 24 = .ok (.istore_n 3, 1) := by decide +kernel
theorem d2_fill_25 : decode c2_fill 25 = .ok (.aload_n 0, 1) := by decide +kernel
theorem d2_fill_26 : decode c2_fill 26 = .ok (.getfield 9, 3) := by decide +kernel
theorem d2_fill_29 : decode c2_fill 29 = .ok (.iconst 0, 1) := by decide +kernel
theorem d2_fill_30 : decode c2_fill 30 = .ok (.iaload, 1) := by decide +kernel
theorem d2_fill_31 : decode c2_fill 31 = .ok (.istore 4, 2) := by decide +kernel
theorem d2_fill_33 : decode c2_fill 33 = .ok (.iload 4, 2) := by decide +kernel
theorem d2_fill_35 : decode c2_fill 35 = .ok (.aload_n 0, 1) := by decide +kernel
theorem d2_fill_36 : decode c2_fill 36 = .ok (.getfield 15, 3) := by decide +kernel
theorem d2_fill_39 : decode c2_fill 39 = .ok (.iconst 0, 1) := by decide +kernel
theorem d2_fill_40 : decode c2_fill 40 = .ok (.iaload, 1) := by decide +kernel
theorem d2_fill_41 : decode c2_fill 41 = .ok (.if_icmp .gt 191, 3) := by decide +kernel
theorem d2_fill_44 : decode c2_fill 44 = .ok (.iload_n 3, 1) := by decide +kernel
theorem d2_fill_45 : decode c2_fill 45 = .ok (.aload_n 0, 1) := by decide +kernel
theorem d2_fill_46 : decode c2_fill 46 = .ok (.getfield 25, 3) := by decide +kernel
theorem d2_fill_49 : decode c2_fill 49 = .ok (.iload 4, 2) := by decide +kernel
theorem d2_fill_51 : decode c2_fill 51 = .ok (.invokevirtual 48, 3) := by decide +kernel
theorem d2_fill_54 : decode c2_fill 54 = .ok (.iand, 1) := by decide +kernel
theorem d2_fill_55 : decode c2_fill 55 = .ok (.istore 5, 2) := by decide +kernel
theorem d2_fill_57 : decode c2_fill 57 = .ok (.iload 5, 2) := by decide +kernel
theorem d2_fill_59 : decode c2_fill 59 = .ok (.ifCond .ne 6, 3) := by decide +kernel
theorem d2_fill_62 : decode c2_fill 62 = .ok (.goto 164, 3) := by decide +kernel
theorem d2_fill_65 : decode c2_fill 65 = .ok (.aload_n 0, 1) := by decide +kernel
theorem d2_fill_66 : decode c2_fill 66 = .ok (.getfield 15, 3) := by decide +kernel
theorem d2_fill_69 : decode c2_fill 69 = .ok (.iconst 1, 1) := by decide +kernel
theorem d2_fill_70 : decode c2_fill 70 = .ok (.iaload, 1) := by decide +kernel
theorem d2_fill_71 : decode c2_fill 71 = .ok (.iload 4, 2) := by decide +kernel
theorem d2_fill_73 : decode c2_fill 73 = .ok (.invokestatic 53, 3) := by decide +kernel
theorem d2_fill_76 : decode c2_fill 76 = .ok (.istore 6, 2) := by decide +kernel
theorem d2_fill_78 : decode c2_fill 78 = .ok (.aload_n 0, 1) := by decide +kernel
theorem d2_fill_79 : decode c2_fill 79 = .ok (.getfield 9, 3) := by decide +kernel
theorem d2_fill_82 : decode c2_fill 82 = .ok (.iconst 1, 1) := by decide +kernel
theorem d2_fill_83 : decode c2_fill 83 = .ok (.iaload, 1) := by decide +kernel
theorem d2_fill_84 : decode c2_fill 84 = .ok (.iload 4, 2) := by decide +kernel
theorem d2_fill_86 : decode c2_fill 86 = .ok (.getstatic 59, 3) := by decide +kernel
theorem d2_fill_89 : decode c2_fill 89 = .ok (.iconst 0, 1) := by decide +kernel
theorem d2_fill_90 : decode c2_fill 90 = .ok (.iaload, 1) := by decide +kernel
theorem d2_fill_91 : decode c2_fill 91 = .ok (.isub, 1) := by decide +kernel
theorem d2_fill_92 : decode c2_fill 92 = .ok (.invokestatic 62, 3) := by decide +kernel
theorem d2_fill_95 : decode c2_fill 95 = .ok (.istore 7, 2) := by decide +kernel
theorem d2_fill_97 : decode c2_fill 97 = .ok (.iload 7, 2) := by decide +kernel
theorem d2_fill_99 : decode c2_fill 99 = .ok (.iload 6, 2) := by decide +kernel
theorem d2_fill_101 : decode c2_fill 101 = .ok (.if_icmp .gt 125, 3) := by decide +kernel
theorem d2_fill_104 : decode c2_fill 104 = .ok (.iload 5, 2) := by decide +kernel
theorem d2_fill_106 : decode c2_fill 106 = .ok (.aload_n 0, 1) := by decide +kernel
theorem d2_fill_107 : decode c2_fill 107 = .ok (.getfield 25, 3) := by decide +kernel
theorem d2_fill_110 : decode c2_fill 110 = .ok (.iload 7, 2) := by decide +kernel
theorem d2_fill_112 : decode c2_fill 112 = .ok (.invokevirtual 48, 3) := by decide +kernel
theorem d2_fill_115 : decode c2_fill 115 = .ok (.iand, 1) := by decide +kernel
theorem d2_fill_116 : decode c2_fill 116 = .ok (.istore 8, 2) := by decide +kernel
theorem d2_fill_118 : decode c2_fill 118 = .ok (.iload 8, 2) := by decide +kernel
theorem d2_fill_120 : decode c2_fill 120 = .ok (.ifCond .ne 6, 3) := by decide +kernel
theorem d2_fill_123 : decode c2_fill 123 = .ok (.goto 97, 3) := by decide +kernel
theorem d2_fill_126 : decode c2_fill 126 = .ok (.iconst 0, 1) := by decide +kernel
theorem d2_fill_127 : decode c2_fill 127 = .ok (.iload 4, 2) := by decide +kernel
theorem d2_fill_129 : decode c2_fill 129 = .ok (.invokestatic 65, 3) := by decide +kernel
theorem d2_fill_132 : decode c2_fill 132 = .ok (.iload 7, 2) := by decide +kernel
theorem d2_fill_134 : decode c2_fill 134 = .ok (.invokestatic 65, 3) := by decide +kernel
theorem d2_fill_137 : decode c2_fill 137 = .ok (.istore 9, 2) := by decide +kernel
theorem d2_fill_139 : decode c2_fill 139 = .ok (.aload_n 0, 1) := by decide +kernel
theorem d2_fill_140 : decode c2_fill 140 = .ok (.getfield 15, 3) := by decide +kernel
theorem d2_fill_143 : decode c2_fill 143 = .ok (.iconst 2, 1) := by decide +kernel
theorem d2_fill_144 : decode c2_fill 144 = .ok (.iaload, 1) := by decide +kernel
theorem d2_fill_145 : decode c2_fill 145 = .ok (.iload 7, 2) := by decide +kernel
theorem d2_fill_147 : decode c2_fill 147 = .ok (.invokestatic 53, 3) := by decide +kernel
theorem d2_fill_150 : decode c2_fill 150 = .ok (.istore 10, 2) := by decide +kernel
theorem d2_fill_152 : decode c2_fill 152 = .ok (.aload_n 0, 1) := by decide +kernel
theorem d2_fill_153 : decode c2_fill 153 = .ok (.getfield 9, 3) := by decide +kernel
theorem d2_fill_156 : decode c2_fill 156 = .ok (.iconst 2, 1) := by decide +kernel
theorem d2_fill_157 : decode c2_fill 157 = .ok (.iaload, 1) := by decide +kernel
theorem d2_fill_158 : decode c2_fill 158 = .ok (.iload 7, 2) := by decide +kernel
theorem d2_fill_160 : decode c2_fill 160 = .ok (.getstatic 59, 3) := by decide +kernel
theorem d2_fill_163 : decode c2_fill 163 = .ok (.iconst 1, 1) := by decide +kernel
theorem d2_fill_164 : decode c2_fill 164 = .ok (.iaload, 1) := by decide +kernel
theorem d2_fill_165 : decode c2_fill 165 = .ok (.isub, 1) := by decide +kernel
theorem d2_fill_166 : decode c2_fill 166 = .ok (.invokestatic 62, 3) := by decide +kernel
theorem d2_fill_169 : decode c2_fill 169 = .ok (.istore 11, 2) := by decide +kernel
theorem d2_fill_171 : decode c2_fill 171 = .ok (.iload 11, 2) := by decide +kernel
theorem d2_fill_173 : decode c2_fill 173 = .ok (.iload 10, 2) := by decide +kernel
theorem d2_fill_175 : decode c2_fill 175 = .ok (.if_icmp .gt 45, 3) := by decide +kernel
theorem d2_fill_178 : decode c2_fill 178 = .ok (.iload 8, 2) := by decide +kernel
theorem d2_fill_180 : decode c2_fill 180 = .ok (.aload_n 0, 1) := by decide +kernel
theorem d2_fill_181 : decode c2_fill 181 = .ok (.getfield 25, 3) := by decide +kernel
theorem d2_fill_184 : decode c2_fill 184 = .ok (.iload 11, 2) := by decide +kernel
theorem d2_fill_186 : decode c2_fill 186 = .ok (.invokevirtual 48, 3) := by decide +kernel
theorem d2_fill_189 : decode c2_fill 189 = .ok (.iand, 1) := by decide +kernel
theorem d2_fill_190 : decode c2_fill 190 = .ok (.istore 12, 2) := by decide +kernel
theorem d2_fill_192 : decode c2_fill 192 = .ok (.iload 12, 2) := by decide +kernel
theorem d2_fill_194 : decode c2_fill 194 = .ok (.ifCond .eq 20, 3) := by decide +kernel
theorem d2_fill_197 : decode c2_fill 197 = .ok (.aload_n 0, 1) := by decide +kernel
theorem d2_fill_198 : decode c2_fill 198 = .ok (.aload_n 1, 1) := by decide +kernel
theorem d2_fill_199 : decode c2_fill 199 = .ok (.iload_n 2, 1) := by decide +kernel
theorem d2_fill_200 : decode c2_fill 200 = .ok (.iload 9, 2) := by decide +kernel
theorem d2_fill_202 : decode c2_fill 202 = .ok (.iload 11, 2) := by decide +kernel
theorem d2_fill_204 : decode c2_fill 204 = .ok (.invokestatic 65, 3) := by decide +kernel
theorem d2_fill_207 : decode c2_fill 207 = .ok (.iload 11, 2) := by decide +kernel
theorem d2_fill_209 : decode c2_fill 209 = .ok (.iload 12, 2) := by decide +kernel
theorem d2_fill_211 : decode c2_fill 211 = .ok (.invokevirtual 70, 3) := by decide +kernel
theorem d2_fill_214 : decode c2_fill 214 = .ok (.iinc 11 1, 3) := by decide +kernel
theorem d2_fill_217 : decode c2_fill 217 = .ok (.goto (-46), 3) := by decide +kernel
theorem d2_fill_220 : decode c2_fill 220 = .ok (.iinc 7 1, 3) := by decide +kernel
theorem d2_fill_223 : decode c2_fill 223 = .ok (.goto (-126), 3) := by decide +kernel
theorem d2_fill_226 : decode c2_fill 226 = .ok (.iinc 4 1, 3) := by decide +kernel
theorem d2_fill_229 : decode c2_fill 229 = .ok (.goto (-196), 3) := by decide +kernel
theorem d2_fill_232 : decode c2_fill 232 = .ok (.return_, 1) := by decide +kernel
def t2_fill (l : Launch) (Po : ri_O) : List ri_S := [i_al 1 1,
  i_con 2 0,
  i_put 3 5 0 ri_isI,
  i_al 4 0,
  i_il 5 2,
  i_callV 6 2 2 (ri_Ev l y2_setLimits w2_setLimits r2_setLimits 0 0) 0 0 0 0,
  i_al 7 0,
  i_get 8 2 0,
  i_il 9 2,
  i_callV 10 2 0 (ri_Ev l y0_figuredChords w0_figuredChords r0_figuredChords 0 0) 0 0 0 0,
  i_al 11 0,
  i_il 12 2,
  i_callV 13 2 2 (ri_Ev l y2_chordsByRule6 w2_chordsByRule6 r2_chordsByRule6 0 0) 0 0 0 0,
  i_bin 14 (fun x y => x &&& y),
  i_is 15 3,
  i_al 16 0,
  i_get 17 2 2,
  i_con 18 0,
  i_ald 19 0,
  i_is 20 4,
  i_il 21 4,
  i_al 22 0,
  i_get 23 2 3,
  i_con 24 0,
  i_ald 25 0,
  i_icmp 26 118 (fun x y => y < x),
  i_il 27 3,
  i_al 28 0,
  i_get 29 2 1,
  i_il 30 4,
  i_callV 31 2 1 (ri_Ev l y1_chordsWith w1_chordsWith r1_chordsWith 0 0) 0 0 0 0,
  i_bin 32 (fun x y => x &&& y),
  i_is 33 5,
  i_il 34 5,
  i_if 35 36 (fun x => ¬ x = 0),
  i_goto 116,
  i_al 37 0,
  i_get 38 2 3,
  i_con 39 1,
  i_ald 40 0,
  i_il 41 4,
  i_m2 42 (fun x y => if y < x then y else x) 4 100 0 0,
  i_is 43 6,
  i_al 44 0,
  i_get 45 2 2,
  i_con 46 1,
  i_ald 47 0,
  i_il 48 4,
  i_gets 49 3,
  i_con 50 0,
  i_ald 51 0,
  i_bin 52 (fun x y => x - y),
  i_m2 53 (fun x y => if x < y then y else x) 4 100 0 0,
  i_is 54 7,
  i_il 55 7,
  i_il 56 6,
  i_icmp 57 116 (fun x y => y < x),
  i_il 58 5,
  i_al 59 0,
  i_get 60 2 1,
  i_il 61 7,
  i_callV 62 2 1 (ri_Ev l y1_chordsWith w1_chordsWith r1_chordsWith 0 0) 0 0 0 0,
  i_bin 63 (fun x y => x &&& y),
  i_is 64 8,
  i_il 65 8,
  i_if 66 67 (fun x => ¬ x = 0),
  i_goto 114,
  i_con 68 0,
  i_il 69 4,
  i_call 70 2 (ri_Ev l y11_withVoice w11_withVoice r11_withVoice 0 0) 0 0 0 0,
  i_il 71 7,
  i_call 72 2 (ri_Ev l y11_withVoice w11_withVoice r11_withVoice 0 0) 0 0 0 0,
  i_is 73 9,
  i_al 74 0,
  i_get 75 2 3,
  i_con 76 2,
  i_ald 77 0,
  i_il 78 7,
  i_m2 79 (fun x y => if y < x then y else x) 4 100 0 0,
  i_is 80 10,
  i_al 81 0,
  i_get 82 2 2,
  i_con 83 2,
  i_ald 84 0,
  i_il 85 7,
  i_gets 86 3,
  i_con 87 1,
  i_ald 88 0,
  i_bin 89 (fun x y => x - y),
  i_m2 90 (fun x y => if x < y then y else x) 4 100 0 0,
  i_is 91 11,
  i_il 92 11,
  i_il 93 10,
  i_icmp 94 114 (fun x y => y < x),
  i_il 95 8,
  i_al 96 0,
  i_get 97 2 1,
  i_il 98 11,
  i_callV 99 2 1 (ri_Ev l y1_chordsWith w1_chordsWith r1_chordsWith 0 0) 0 0 0 0,
  i_bin 100 (fun x y => x &&& y),
  i_is 101 12,
  i_il 102 12,
  i_if 103 112 (fun x => x = 0),
  i_al 104 0,
  i_al 105 1,
  i_il 106 2,
  i_il 107 9,
  i_il 108 11,
  i_call 109 2 (ri_Ev l y11_withVoice w11_withVoice r11_withVoice 0 0) 0 0 0 0,
  i_il 110 11,
  i_il 111 12,
  i_callV 112 6 2 (ri_Ev l y2_fillBass w2_fillBass r2_fillBass 0 0) 0 0 0 0,
  i_inc 113 11 1,
  i_goto 91,
  i_inc 115 7 1,
  i_goto 54,
  i_inc 117 4 1,
  i_goto 20,
  i_vret Po 0 0]
set_option maxRecDepth 20000 in
set_option maxHeartbeats 4000000 in
theorem z2_fill (l : Launch) (Po : ri_O) (p : Program) (e : Env) (s : State) (m : MethodId) (args : Array Value) (below : List Frame) (meth : Method) (c : Code) (D : va_G) (ka : Nat → ClassId) (sa : Nat → Nat) (base : Nat) (X : ri_X p s m args c c2_fill 13 w2_fill "ChoraleSearch$StateRules" D ka sa base) (hret : meth.sig.returnType = none) (hlocks : meth.locks = false) (hname : meth.name = "fill") : ri_clo (ri_W p l e r2_fill s m args below meth c D ka sa base 13 (MQ below (ri_Qc D ka sa base Po) args s 0 0 (fun q => base ≤ q)) p2_fill) (t2_fill l Po) := by
  refine ri_clo_of ?_
  unfold t2_fill
  exact ⟨s_aload_n X d2_fill_0 rfl rfl,
    s_iconst X d2_fill_1 rfl rfl,
    s_putN X (ci := 5) (f := 0) rfl (fun w h => List.mem_cons_of_mem _ (uC_5 w h)) (by decide) tC_5 oC_5 nC_5 rfl ri_ok_int (List.mem_of_getElem? (i := 26) rfl) d2_fill_2 rfl,
    s_aload_n X d2_fill_5 rfl rfl,
    s_iload_n X d2_fill_6 rfl rfl,
    s_callV ri_NW_ok X (na := 1) (ci := 2) rfl ⟨ri_cB X 1 mgw_427 (List.mem_cons_of_mem _ mgw_5) (List.mem_cons_of_mem _ mgw_424) (by decide +kernel) rfl rfl ⟨by decide, by decide⟩, X.2.2.2.2.1 _ (List.mem_cons_of_mem _ mgw_426), X.2.2.2.2.1 _ (List.mem_cons_of_mem _ mgp_10)⟩ d2_fill_7 rfl,
    s_aload_n X d2_fill_10 rfl rfl,
    s_get X (ci := 2) (f := 0) rfl (fun w h => List.mem_cons_of_mem _ (uC_2 w h)) (by decide) (List.mem_cons_of_mem _ mgw_147) d2_fill_11 rfl,
    s_iload_n X d2_fill_14 rfl rfl,
    s_callVN ri_NW_ok X (na := 1) (ci := 0) rfl ⟨ri_cN X 1 mgw_445 (List.mem_cons_of_mem _ mgw_2) (List.mem_of_getElem? (i := 51) rfl) (by decide +kernel) rfl rfl ⟨by decide, by decide⟩, X.2.2.2.2.1 _ (List.mem_cons_of_mem _ mgw_444), X.2.2.2.2.1 _ (List.mem_cons_of_mem _ mgp_13)⟩ d2_fill_15 rfl,
    s_aload_n X d2_fill_18 rfl rfl,
    s_iload_n X d2_fill_19 rfl rfl,
    s_callV ri_NW_ok X (na := 1) (ci := 2) rfl ⟨ri_cB X 1 mgw_449 (List.mem_cons_of_mem _ mgw_5) (List.mem_cons_of_mem _ mgw_446) (by decide +kernel) rfl rfl ⟨by decide, by decide⟩, X.2.2.2.2.1 _ (List.mem_cons_of_mem _ mgw_448), X.2.2.2.2.1 _ (List.mem_cons_of_mem _ mgp_14)⟩ d2_fill_20 rfl,
    s_iand X d2_fill_23 rfl,
    s_istore_n X d2_fill_24 rfl (by decide) rfl,
    s_aload_n X d2_fill_25 rfl rfl,
    s_get X (ci := 2) (f := 2) rfl (fun w h => List.mem_cons_of_mem _ (uC_2 w h)) (by decide) (List.mem_cons_of_mem _ mgw_149) d2_fill_26 rfl,
    s_iconst X d2_fill_29 rfl rfl,
    s_iald X rfl d2_fill_30 rfl,
    s_istore X d2_fill_31 (by decide) rfl,
    s_iload X d2_fill_33 rfl,
    s_aload_n X d2_fill_35 rfl rfl,
    s_get X (ci := 2) (f := 3) rfl (fun w h => List.mem_cons_of_mem _ (uC_2 w h)) (by decide) (List.mem_cons_of_mem _ mgw_150) d2_fill_36 rfl,
    s_iconst X d2_fill_39 rfl rfl,
    s_iald X rfl d2_fill_40 rfl,
    s_icmp_gt X d2_fill_41 rfl rfl,
    s_iload_n X d2_fill_44 rfl rfl,
    s_aload_n X d2_fill_45 rfl rfl,
    s_get X (ci := 2) (f := 1) rfl (fun w h => List.mem_cons_of_mem _ (uC_2 w h)) (by decide) (List.mem_cons_of_mem _ mgw_148) d2_fill_46 rfl,
    s_iload X d2_fill_49 rfl,
    s_callVN ri_NW_ok X (na := 1) (ci := 1) rfl ⟨ri_cN X 1 mgw_457 (List.mem_cons_of_mem _ mgw_3) (List.mem_of_getElem? (i := 53) rfl) (by decide +kernel) rfl rfl ⟨by decide, by decide⟩, X.2.2.2.2.1 _ (List.mem_cons_of_mem _ mgw_456), X.2.2.2.2.1 _ (List.mem_cons_of_mem _ mgp_16)⟩ d2_fill_51 rfl,
    s_iand X d2_fill_54 rfl,
    s_istore X d2_fill_55 (by decide) rfl,
    s_iload X d2_fill_57 rfl,
    s_if_ne X d2_fill_59 rfl rfl,
    s_goto X d2_fill_62 rfl,
    s_aload_n X d2_fill_65 rfl rfl,
    s_get X (ci := 2) (f := 3) rfl (fun w h => List.mem_cons_of_mem _ (uC_2 w h)) (by decide) (List.mem_cons_of_mem _ mgw_150) d2_fill_66 rfl,
    s_iconst X d2_fill_69 rfl rfl,
    s_iald X rfl d2_fill_70 rfl,
    s_iload X d2_fill_71 rfl,
    s_min X (List.mem_cons_of_mem _ mgw_458) (List.mem_cons_of_mem _ mgw_440) (List.mem_cons_of_mem _ mgw_13) (List.mem_cons_of_mem _ mgw_441) d2_fill_73 rfl,
    s_istore X d2_fill_76 (by decide) rfl,
    s_aload_n X d2_fill_78 rfl rfl,
    s_get X (ci := 2) (f := 2) rfl (fun w h => List.mem_cons_of_mem _ (uC_2 w h)) (by decide) (List.mem_cons_of_mem _ mgw_149) d2_fill_79 rfl,
    s_iconst X d2_fill_82 rfl rfl,
    s_iald X rfl d2_fill_83 rfl,
    s_iload X d2_fill_84 rfl,
    s_gets X (q := 3) rfl rfl (List.mem_cons_of_mem _ mgw_459) d2_fill_86 rfl,
    s_iconst X d2_fill_89 rfl rfl,
    s_iald X rfl d2_fill_90 rfl,
    s_isub X d2_fill_91 rfl,
    s_max X (List.mem_cons_of_mem _ mgw_461) (List.mem_cons_of_mem _ mgw_433) (List.mem_cons_of_mem _ mgw_13) (List.mem_cons_of_mem _ mgw_434) d2_fill_92 rfl,
    s_istore X d2_fill_95 (by decide) rfl,
    s_iload X d2_fill_97 rfl,
    s_iload X d2_fill_99 rfl,
    s_icmp_gt X d2_fill_101 rfl rfl,
    s_iload X d2_fill_104 rfl,
    s_aload_n X d2_fill_106 rfl rfl,
    s_get X (ci := 2) (f := 1) rfl (fun w h => List.mem_cons_of_mem _ (uC_2 w h)) (by decide) (List.mem_cons_of_mem _ mgw_148) d2_fill_107 rfl,
    s_iload X d2_fill_110 rfl,
    s_callVN ri_NW_ok X (na := 1) (ci := 1) rfl ⟨ri_cN X 1 mgw_457 (List.mem_cons_of_mem _ mgw_3) (List.mem_of_getElem? (i := 53) rfl) (by decide +kernel) rfl rfl ⟨by decide, by decide⟩, X.2.2.2.2.1 _ (List.mem_cons_of_mem _ mgw_456), X.2.2.2.2.1 _ (List.mem_cons_of_mem _ mgp_16)⟩ d2_fill_112 rfl,
    s_iand X d2_fill_115 rfl,
    s_istore X d2_fill_116 (by decide) rfl,
    s_iload X d2_fill_118 rfl,
    s_if_ne X d2_fill_120 rfl rfl,
    s_goto X d2_fill_123 rfl,
    s_iconst X d2_fill_126 rfl rfl,
    s_iload X d2_fill_127 rfl,
    s_callSN ri_NW_ok X ⟨ri_cN X 2 mgw_464 (List.mem_cons_of_mem _ mgw_14) (List.mem_of_getElem? (i := 54) rfl) (by decide +kernel) rfl rfl ⟨by decide, by decide⟩, X.2.2.2.2.1 _ (List.mem_cons_of_mem _ mgw_463), trivial⟩ d2_fill_129 rfl,
    s_iload X d2_fill_132 rfl,
    s_callSN ri_NW_ok X ⟨ri_cN X 2 mgw_464 (List.mem_cons_of_mem _ mgw_14) (List.mem_of_getElem? (i := 54) rfl) (by decide +kernel) rfl rfl ⟨by decide, by decide⟩, X.2.2.2.2.1 _ (List.mem_cons_of_mem _ mgw_463), trivial⟩ d2_fill_134 rfl,
    s_istore X d2_fill_137 (by decide) rfl,
    s_aload_n X d2_fill_139 rfl rfl,
    s_get X (ci := 2) (f := 3) rfl (fun w h => List.mem_cons_of_mem _ (uC_2 w h)) (by decide) (List.mem_cons_of_mem _ mgw_150) d2_fill_140 rfl,
    s_iconst X d2_fill_143 rfl rfl,
    s_iald X rfl d2_fill_144 rfl,
    s_iload X d2_fill_145 rfl,
    s_min X (List.mem_cons_of_mem _ mgw_458) (List.mem_cons_of_mem _ mgw_440) (List.mem_cons_of_mem _ mgw_13) (List.mem_cons_of_mem _ mgw_441) d2_fill_147 rfl,
    s_istore X d2_fill_150 (by decide) rfl,
    s_aload_n X d2_fill_152 rfl rfl,
    s_get X (ci := 2) (f := 2) rfl (fun w h => List.mem_cons_of_mem _ (uC_2 w h)) (by decide) (List.mem_cons_of_mem _ mgw_149) d2_fill_153 rfl,
    s_iconst X d2_fill_156 rfl rfl,
    s_iald X rfl d2_fill_157 rfl,
    s_iload X d2_fill_158 rfl,
    s_gets X (q := 3) rfl rfl (List.mem_cons_of_mem _ mgw_459) d2_fill_160 rfl,
    s_iconst X d2_fill_163 rfl rfl,
    s_iald X rfl d2_fill_164 rfl,
    s_isub X d2_fill_165 rfl,
    s_max X (List.mem_cons_of_mem _ mgw_461) (List.mem_cons_of_mem _ mgw_433) (List.mem_cons_of_mem _ mgw_13) (List.mem_cons_of_mem _ mgw_434) d2_fill_166 rfl,
    s_istore X d2_fill_169 (by decide) rfl,
    s_iload X d2_fill_171 rfl,
    s_iload X d2_fill_173 rfl,
    s_icmp_gt X d2_fill_175 rfl rfl,
    s_iload X d2_fill_178 rfl,
    s_aload_n X d2_fill_180 rfl rfl,
    s_get X (ci := 2) (f := 1) rfl (fun w h => List.mem_cons_of_mem _ (uC_2 w h)) (by decide) (List.mem_cons_of_mem _ mgw_148) d2_fill_181 rfl,
    s_iload X d2_fill_184 rfl,
    s_callVN ri_NW_ok X (na := 1) (ci := 1) rfl ⟨ri_cN X 1 mgw_457 (List.mem_cons_of_mem _ mgw_3) (List.mem_of_getElem? (i := 53) rfl) (by decide +kernel) rfl rfl ⟨by decide, by decide⟩, X.2.2.2.2.1 _ (List.mem_cons_of_mem _ mgw_456), X.2.2.2.2.1 _ (List.mem_cons_of_mem _ mgp_16)⟩ d2_fill_186 rfl,
    s_iand X d2_fill_189 rfl,
    s_istore X d2_fill_190 (by decide) rfl,
    s_iload X d2_fill_192 rfl,
    s_if_eq X d2_fill_194 rfl rfl,
    s_aload_n X d2_fill_197 rfl rfl,
    s_aload_n X d2_fill_198 rfl rfl,
    s_iload_n X d2_fill_199 rfl rfl,
    s_iload X d2_fill_200 rfl,
    s_iload X d2_fill_202 rfl,
    s_callSN ri_NW_ok X ⟨ri_cN X 2 mgw_464 (List.mem_cons_of_mem _ mgw_14) (List.mem_of_getElem? (i := 54) rfl) (by decide +kernel) rfl rfl ⟨by decide, by decide⟩, X.2.2.2.2.1 _ (List.mem_cons_of_mem _ mgw_463), trivial⟩ d2_fill_204 rfl,
    s_iload X d2_fill_207 rfl,
    s_iload X d2_fill_209 rfl,
    s_callV ri_NW_ok X (na := 5) (ci := 2) rfl ⟨ri_cB X 5 mgw_468 (List.mem_cons_of_mem _ mgw_5) (List.mem_cons_of_mem _ mgw_465) (by decide +kernel) rfl rfl ⟨by decide, by decide⟩, X.2.2.2.2.1 _ (List.mem_cons_of_mem _ mgw_467), X.2.2.2.2.1 _ (List.mem_cons_of_mem _ mgp_17)⟩ d2_fill_211 rfl,
    s_iinc X d2_fill_214 rfl (by decide) rfl,
    s_goto X d2_fill_217 rfl,
    s_iinc X d2_fill_220 rfl (by decide) rfl,
    s_goto X d2_fill_223 rfl,
    s_iinc X d2_fill_226 rfl (by decide) rfl,
    s_goto X d2_fill_229 rfl,
    s_vret X hret hlocks d2_fill_232, trivial⟩
theorem d2_setLimits_0 : decode c2_setLimits 0 = .ok (.iconst 0, 1) := by decide +kernel
theorem d2_setLimits_1 : decode c2_setLimits 1 = .ok (.istore_n 2, 1) := by decide +kernel
theorem d2_setLimits_2 : decode c2_setLimits 2 = .ok (.iload_n 2, 1) := by decide +kernel
theorem d2_setLimits_3 : decode c2_setLimits 3 = .ok (.iconst 4, 1) := by decide +kernel
theorem d2_setLimits_4 : decode c2_setLimits 4 = .ok (.if_icmp .ge 39, 3) := by decide +kernel
theorem d2_setLimits_7 : decode c2_setLimits 7 = .ok (.aload_n 0, 1) := by decide +kernel
theorem d2_setLimits_8 : decode c2_setLimits 8 = .ok (.getfield 9, 3) := by decide +kernel
theorem d2_setLimits_11 : decode c2_setLimits 11 = .ok (.iload_n 2, 1) := by decide +kernel
theorem d2_setLimits_12 : decode c2_setLimits 12 = .ok (.aload_n 0, 1) := by decide +kernel
theorem d2_setLimits_13 : decode c2_setLimits 13 = .ok (.getfield 21, 3) := by decide +kernel
theorem d2_setLimits_16 : decode c2_setLimits 16 = .ok (.iload_n 2, 1) := by decide +kernel
theorem d2_setLimits_17 : decode c2_setLimits 17 = .ok (.iload_n 1, 1) := by decide +kernel
theorem d2_setLimits_18 : decode c2_setLimits 18 = .ok (.invokevirtual 74, 3) := by decide +kernel
theorem d2_setLimits_21 : decode c2_setLimits 21 = .ok (.iastore, 1) := by decide +kernel
theorem d2_setLimits_22 : decode c2_setLimits 22 = .ok (.aload_n 0, 1) := by decide +kernel
theorem d2_setLimits_23 : decode c2_setLimits 23 = .ok (.getfield 15, 3) := by decide +kernel
theorem d2_setLimits_26 : decode c2_setLimits 26 = .ok (.iload_n 2, 1) := by decide +kernel
theorem d2_setLimits_27 : decode c2_setLimits 27 = .ok (.aload_n 0, 1) := by decide +kernel
theorem d2_setLimits_28 : decode c2_setLimits 28 = .ok (.getfield 21, 3) := by decide +kernel
theorem d2_setLimits_31 : decode c2_setLimits 31 = .ok (.iload_n 2, 1) := by decide +kernel
theorem d2_setLimits_32 : decode c2_setLimits 32 = .ok (.iload_n 1, 1) := by decide +kernel
theorem d2_setLimits_33 : decode c2_setLimits 33 = .ok (.invokevirtual 77, 3) := by decide +kernel
theorem d2_setLimits_36 : decode c2_setLimits 36 = .ok (.iastore, 1) := by decide +kernel
theorem d2_setLimits_37 : decode c2_setLimits 37 = .ok (.iinc 2 1, 3) := by decide +kernel
theorem d2_setLimits_40 : decode c2_setLimits 40 = .ok (.goto (-38), 3) := by decide +kernel
theorem d2_setLimits_43 : decode c2_setLimits 43 = .ok (.return_, 1) := by decide +kernel
def t2_setLimits (l : Launch) (Po : ri_O) : List ri_S := [i_con 1 0,
  i_is 2 2,
  i_il 3 2,
  i_con 4 4,
  i_icmp 5 25 (fun x y => y ≤ x),
  i_al 6 0,
  i_get 7 2 2,
  i_il 8 2,
  i_al 9 0,
  i_get 10 2 0,
  i_il 11 2,
  i_il 12 1,
  i_callV 13 3 0 (ri_Ev l y0_lowAt w0_lowAt r0_lowAt 0 0) 0 0 0 0,
  i_ast 14 0 (fun x => x),
  i_al 15 0,
  i_get 16 2 3,
  i_il 17 2,
  i_al 18 0,
  i_get 19 2 0,
  i_il 20 2,
  i_il 21 1,
  i_callV 22 3 0 (ri_Ev l y0_highAt w0_highAt r0_highAt 0 0) 0 0 0 0,
  i_ast 23 0 (fun x => x),
  i_inc 24 2 1,
  i_goto 2,
  i_vret Po 0 0]
set_option maxRecDepth 20000 in
set_option maxHeartbeats 4000000 in
theorem z2_setLimits (l : Launch) (Po : ri_O) (p : Program) (e : Env) (s : State) (m : MethodId) (args : Array Value) (below : List Frame) (meth : Method) (c : Code) (D : va_G) (ka : Nat → ClassId) (sa : Nat → Nat) (base : Nat) (X : ri_X p s m args c c2_setLimits 3 w2_setLimits "ChoraleSearch$StateRules" D ka sa base) (hret : meth.sig.returnType = none) (hlocks : meth.locks = false) (hname : meth.name = "setLimits") : ri_clo (ri_W p l e r2_setLimits s m args below meth c D ka sa base 3 (MQ below (ri_Qc D ka sa base Po) args s 0 0 (fun q => base ≤ q)) p2_setLimits) (t2_setLimits l Po) := by
  refine ri_clo_of ?_
  unfold t2_setLimits
  exact ⟨s_iconst X d2_setLimits_0 rfl rfl,
    s_istore_n X d2_setLimits_1 rfl (by decide) rfl,
    s_iload_n X d2_setLimits_2 rfl rfl,
    s_iconst X d2_setLimits_3 rfl rfl,
    s_icmp_ge X d2_setLimits_4 rfl rfl,
    s_aload_n X d2_setLimits_7 rfl rfl,
    s_get X (ci := 2) (f := 2) rfl (fun w h => List.mem_cons_of_mem _ (uC_2 w h)) (by decide) (List.mem_cons_of_mem _ mgw_149) d2_setLimits_8 rfl,
    s_iload_n X d2_setLimits_11 rfl rfl,
    s_aload_n X d2_setLimits_12 rfl rfl,
    s_get X (ci := 2) (f := 0) rfl (fun w h => List.mem_cons_of_mem _ (uC_2 w h)) (by decide) (List.mem_cons_of_mem _ mgw_147) d2_setLimits_13 rfl,
    s_iload_n X d2_setLimits_16 rfl rfl,
    s_iload_n X d2_setLimits_17 rfl rfl,
    s_callVN ri_NW_ok X (na := 2) (ci := 0) rfl ⟨ri_cN X 2 mgw_431 (List.mem_cons_of_mem _ mgw_2) (List.mem_of_getElem? (i := 49) rfl) (by decide +kernel) rfl rfl ⟨by decide, by decide⟩, X.2.2.2.2.1 _ (List.mem_cons_of_mem _ mgw_430), X.2.2.2.2.1 _ (List.mem_cons_of_mem _ mgp_11)⟩ d2_setLimits_18 rfl,
    s_iast X rfl d2_setLimits_21 rfl,
    s_aload_n X d2_setLimits_22 rfl rfl,
    s_get X (ci := 2) (f := 3) rfl (fun w h => List.mem_cons_of_mem _ (uC_2 w h)) (by decide) (List.mem_cons_of_mem _ mgw_150) d2_setLimits_23 rfl,
    s_iload_n X d2_setLimits_26 rfl rfl,
    s_aload_n X d2_setLimits_27 rfl rfl,
    s_get X (ci := 2) (f := 0) rfl (fun w h => List.mem_cons_of_mem _ (uC_2 w h)) (by decide) (List.mem_cons_of_mem _ mgw_147) d2_setLimits_28 rfl,
    s_iload_n X d2_setLimits_31 rfl rfl,
    s_iload_n X d2_setLimits_32 rfl rfl,
    s_callVN ri_NW_ok X (na := 2) (ci := 0) rfl ⟨ri_cN X 2 mgw_438 (List.mem_cons_of_mem _ mgw_2) (List.mem_of_getElem? (i := 50) rfl) (by decide +kernel) rfl rfl ⟨by decide, by decide⟩, X.2.2.2.2.1 _ (List.mem_cons_of_mem _ mgw_437), X.2.2.2.2.1 _ (List.mem_cons_of_mem _ mgp_12)⟩ d2_setLimits_33 rfl,
    s_iast X rfl d2_setLimits_36 rfl,
    s_iinc X d2_setLimits_37 rfl (by decide) rfl,
    s_goto X d2_setLimits_40 rfl,
    s_vret X hret hlocks d2_setLimits_43, trivial⟩
theorem d2_chordsByRule6_0 : decode c2_chordsByRule6 0 = .ok (.aload_n 0, 1) := by decide +kernel
theorem d2_chordsByRule6_1 : decode c2_chordsByRule6 1 = .ok (.getfield 21, 3) := by decide +kernel
theorem d2_chordsByRule6_4 : decode c2_chordsByRule6 4 = .ok (.iload_n 1, 1) := by decide +kernel
theorem d2_chordsByRule6_5 : decode c2_chordsByRule6 5 = .ok (.invokevirtual 97, 3) := by decide +kernel
theorem d2_chordsByRule6_8 : decode c2_chordsByRule6 8 = .ok (.ifCond .eq 5, 3) := by decide +kernel
theorem d2_chordsByRule6_11 : decode c2_chordsByRule6 11 = .ok (.iconst 1, 1) := by decide +kernel
theorem d2_chordsByRule6_12 : decode c2_chordsByRule6 12 = .ok (.ireturn, 1) := by decide +kernel
theorem d2_chordsByRule6_13 : decode c2_chordsByRule6 13 = .ok (.aload_n 0, 1) := by decide +kernel
theorem d2_chordsByRule6_14 : decode c2_chordsByRule6 14 = .ok (.getfield 21, 3) := by decide +kernel
theorem d2_chordsByRule6_17 : decode c2_chordsByRule6 17 = .ok (.getfield 101, 3) := by decide +kernel
theorem d2_chordsByRule6_20 : decode c2_chordsByRule6 20 = .ok (.iload_n 1, 1) := by decide +kernel
theorem d2_chordsByRule6_21 : decode c2_chordsByRule6 21 = .ok (.baload, 1) := by decide +kernel
theorem d2_chordsByRule6_22 : decode c2_chordsByRule6 22 = .ok (.ifCond .eq 8, 3) := by decide +kernel
theorem d2_chordsByRule6_25 : decode c2_chordsByRule6 25 = .ok (.bipush 49, 2) := by decide +kernel
theorem d2_chordsByRule6_27 : decode c2_chordsByRule6 27 = .ok (.goto 4, 3) := by decide +kernel
theorem d2_chordsByRule6_30 : decode c2_chordsByRule6 30 = .ok (.iconst (-1), 1) := by decide +kernel
theorem d2_chordsByRule6_31 : decode c2_chordsByRule6 31 = .ok (.ireturn, 1) := by decide +kernel
def t2_chordsByRule6 (l : Launch) (Po : ri_O) : List ri_S := [i_al 1 0,
  i_get 2 2 0,
  i_il 3 1,
  i_callV 4 2 0 (ri_Ev l y0_isLast w0_isLast r0_isLast 0 0) 0 0 0 0,
  i_if 5 7 (fun x => x = 0),
  i_con 6 1,
  i_ret Po 0 0,
  i_al 8 0,
  i_get 9 2 0,
  i_get 10 0 5,
  i_il 11 1,
  i_ald 12 1,
  i_if 13 15 (fun x => x = 0),
  i_con 14 49,
  i_goto 16,
  i_con 16 (-1),
  i_ret Po 0 0]
set_option maxRecDepth 20000 in
set_option maxHeartbeats 4000000 in
theorem z2_chordsByRule6 (l : Launch) (Po : ri_O) (p : Program) (e : Env) (s : State) (m : MethodId) (args : Array Value) (below : List Frame) (meth : Method) (c : Code) (D : va_G) (ka : Nat → ClassId) (sa : Nat → Nat) (base : Nat) (X : ri_X p s m args c c2_chordsByRule6 2 w2_chordsByRule6 "ChoraleSearch$StateRules" D ka sa base) (hret : meth.sig.returnType = (some .int)) (hlocks : meth.locks = false) (hname : meth.name = "chordsByRule6") : ri_clo (ri_W p l e r2_chordsByRule6 s m args below meth c D ka sa base 2 (MQ below (ri_Qc D ka sa base Po) args s 0 0 (fun q => base ≤ q)) p2_chordsByRule6) (t2_chordsByRule6 l Po) := by
  refine ri_clo_of ?_
  unfold t2_chordsByRule6
  exact ⟨s_aload_n X d2_chordsByRule6_0 rfl rfl,
    s_get X (ci := 2) (f := 0) rfl (fun w h => List.mem_cons_of_mem _ (uC_2 w h)) (by decide) (List.mem_cons_of_mem _ mgw_147) d2_chordsByRule6_1 rfl,
    s_iload_n X d2_chordsByRule6_4 rfl rfl,
    s_callVN ri_NW_ok X (na := 1) (ci := 0) rfl ⟨ri_cN X 1 mgw_453 (List.mem_cons_of_mem _ mgw_2) (List.mem_of_getElem? (i := 52) rfl) (by decide +kernel) rfl rfl ⟨by decide, by decide⟩, X.2.2.2.2.1 _ (List.mem_cons_of_mem _ mgw_452), X.2.2.2.2.1 _ (List.mem_cons_of_mem _ mgp_15)⟩ d2_chordsByRule6_5 rfl,
    s_if_eq X d2_chordsByRule6_8 rfl rfl,
    s_iconst X d2_chordsByRule6_11 rfl rfl,
    s_iret X hret hlocks d2_chordsByRule6_12,
    s_aload_n X d2_chordsByRule6_13 rfl rfl,
    s_get X (ci := 2) (f := 0) rfl (fun w h => List.mem_cons_of_mem _ (uC_2 w h)) (by decide) (List.mem_cons_of_mem _ mgw_147) d2_chordsByRule6_14 rfl,
    s_getN X (ci := 0) (f := 5) rfl (fun w h => List.mem_cons_of_mem _ (uC_0 w h)) (by decide) (List.mem_of_getElem? (i := 11) rfl) d2_chordsByRule6_17 rfl,
    s_iload_n X d2_chordsByRule6_20 rfl rfl,
    s_zald X rfl d2_chordsByRule6_21 rfl,
    s_if_eq X d2_chordsByRule6_22 rfl rfl,
    s_bipush X d2_chordsByRule6_25 rfl rfl,
    s_goto X d2_chordsByRule6_27 rfl,
    s_iconst X d2_chordsByRule6_30 rfl rfl,
    s_iret X hret hlocks d2_chordsByRule6_31, trivial⟩
theorem d2_fillBass_0 : decode c2_fillBass 0 = .ok (.aload_n 0, 1) := by decide +kernel
theorem d2_fillBass_1 : decode c2_fillBass 1 = .ok (.getfield 15, 3) := by decide +kernel
theorem d2_fillBass_4 : decode c2_fillBass 4 = .ok (.iconst 3, 1) := by decide +kernel
theorem d2_fillBass_5 : decode c2_fillBass 5 = .ok (.iaload, 1) := by decide +kernel
theorem d2_fillBass_6 : decode c2_fillBass 6 = .ok (.iload 4, 2) := by decide +kernel
theorem d2_fillBass_8 : decode c2_fillBass 8 = .ok (.invokestatic 53, 3) := by decide +kernel
theorem d2_fillBass_11 : decode c2_fillBass 11 = .ok (.istore 6, 2) := by decide +kernel
theorem d2_fillBass_13 : decode c2_fillBass 13 = .ok (.aload_n 0, 1) := by decide +kernel
theorem d2_fillBass_14 : decode c2_fillBass 14 = .ok (.getfield 9, 3) := by decide +kernel
theorem d2_fillBass_17 : decode c2_fillBass 17 = .ok (.iconst 3, 1) := by decide +kernel
theorem d2_fillBass_18 : decode c2_fillBass 18 = .ok (.iaload, 1) := by decide +kernel
theorem d2_fillBass_19 : decode c2_fillBass 19 = .ok (.iload 4, 2) := by decide +kernel
theorem d2_fillBass_21 : decode c2_fillBass 21 = .ok (.getstatic 59, 3) := by decide +kernel
theorem d2_fillBass_24 : decode c2_fillBass 24 = .ok (.iconst 2, 1) := by decide +kernel
theorem d2_fillBass_25 : decode c2_fillBass 25 = .ok (.iaload, 1) := by decide +kernel
theorem d2_fillBass_26 : decode c2_fillBass 26 = .ok (.isub, 1) := by decide +kernel
theorem d2_fillBass_27 : decode c2_fillBass 27 = .ok (.invokestatic 62, 3) := by decide +kernel
theorem d2_fillBass_30 : decode c2_fillBass 30 = .ok (.istore 7, 2) := by decide +kernel
theorem d2_fillBass_32 : decode c2_fillBass 32 = .ok (.iload 7, 2) := by decide +kernel
theorem d2_fillBass_34 : decode c2_fillBass 34 = .ok (.iload 6, 2) := by decide +kernel
theorem d2_fillBass_36 : decode c2_fillBass 36 = .ok (.if_icmp .gt 39, 3) := by decide +kernel
theorem d2_fillBass_39 : decode c2_fillBass 39 = .ok (.iload 5, 2) := by decide +kernel
theorem d2_fillBass_41 : decode c2_fillBass 41 = .ok (.aload_n 0, 1) := by decide +kernel
theorem d2_fillBass_42 : decode c2_fillBass 42 = .ok (.iload_n 2, 1) := by decide +kernel
theorem d2_fillBass_43 : decode c2_fillBass 43 = .ok (.iload 7, 2) := by decide +kernel
theorem d2_fillBass_45 : decode c2_fillBass 45 = .ok (.invokevirtual 80, 3) := by decide +kernel
theorem d2_fillBass_48 : decode c2_fillBass 48 = .ok (.iand, 1) := by decide +kernel
theorem d2_fillBass_49 : decode c2_fillBass 49 = .ok (.istore 8, 2) := by decide +kernel
theorem d2_fillBass_51 : decode c2_fillBass 51 = .ok (.iload 8, 2) := by decide +kernel
theorem d2_fillBass_53 : decode c2_fillBass 53 = .ok (.ifCond .eq 16, 3) := by decide +kernel
theorem d2_fillBass_56 : decode c2_fillBass 56 = .ok (.aload_n 0, 1) := by decide +kernel
theorem d2_fillBass_57 : decode c2_fillBass 57 = .ok (.aload_n 1, 1) := by decide +kernel
theorem d2_fillBass_58 : decode c2_fillBass 58 = .ok (.iload_n 3, 1) := by decide +kernel
theorem d2_fillBass_59 : decode c2_fillBass 59 = .ok (.iload 7, 2) := by decide +kernel
theorem d2_fillBass_61 : decode c2_fillBass 61 = .ok (.invokestatic 65, 3) := by decide +kernel
theorem d2_fillBass_64 : decode c2_fillBass 64 = .ok (.iload 8, 2) := by decide +kernel
theorem d2_fillBass_66 : decode c2_fillBass 66 = .ok (.invokevirtual 83, 3) := by decide +kernel
theorem d2_fillBass_69 : decode c2_fillBass 69 = .ok (.iinc 7 1, 3) := by decide +kernel
theorem d2_fillBass_72 : decode c2_fillBass 72 = .ok (.goto (-40), 3) := by decide +kernel
theorem d2_fillBass_75 : decode c2_fillBass 75 = .ok (.return_, 1) := by decide +kernel
def t2_fillBass (l : Launch) (Po : ri_O) : List ri_S := [i_al 1 0,
  i_get 2 2 3,
  i_con 3 3,
  i_ald 4 0,
  i_il 5 4,
  i_m2 6 (fun x y => if y < x then y else x) 3 72 0 0,
  i_is 7 6,
  i_al 8 0,
  i_get 9 2 2,
  i_con 10 3,
  i_ald 11 0,
  i_il 12 4,
  i_gets 13 3,
  i_con 14 2,
  i_ald 15 0,
  i_bin 16 (fun x y => x - y),
  i_m2 17 (fun x y => if x < y then y else x) 3 72 0 0,
  i_is 18 7,
  i_il 19 7,
  i_il 20 6,
  i_icmp 21 39 (fun x y => y < x),
  i_il 22 5,
  i_al 23 0,
  i_il 24 2,
  i_il 25 7,
  i_callV 26 3 2 (ri_Ev l y2_bassChords w2_bassChords r2_bassChords 0 0) 0 0 0 0,
  i_bin 27 (fun x y => x &&& y),
  i_is 28 8,
  i_il 29 8,
  i_if 30 37 (fun x => x = 0),
  i_al 31 0,
  i_al 32 1,
  i_il 33 3,
  i_il 34 7,
  i_call 35 2 (ri_Ev l y11_withVoice w11_withVoice r11_withVoice 0 0) 0 0 0 0,
  i_il 36 8,
  i_callV 37 4 2 (ri_Ev l y2_addComplete w2_addComplete r2_addComplete 0 0) 0 0 0 0,
  i_inc 38 7 1,
  i_goto 18,
  i_vret Po 0 0]
set_option maxRecDepth 20000 in
set_option maxHeartbeats 4000000 in
theorem z2_fillBass (l : Launch) (Po : ri_O) (p : Program) (e : Env) (s : State) (m : MethodId) (args : Array Value) (below : List Frame) (meth : Method) (c : Code) (D : va_G) (ka : Nat → ClassId) (sa : Nat → Nat) (base : Nat) (X : ri_X p s m args c c2_fillBass 9 w2_fillBass "ChoraleSearch$StateRules" D ka sa base) (hret : meth.sig.returnType = none) (hlocks : meth.locks = false) (hname : meth.name = "fillBass") : ri_clo (ri_W p l e r2_fillBass s m args below meth c D ka sa base 9 (MQ below (ri_Qc D ka sa base Po) args s 0 0 (fun q => base ≤ q)) p2_fillBass) (t2_fillBass l Po) := by
  refine ri_clo_of ?_
  unfold t2_fillBass
  exact ⟨s_aload_n X d2_fillBass_0 rfl rfl,
    s_get X (ci := 2) (f := 3) rfl (fun w h => List.mem_cons_of_mem _ (uC_2 w h)) (by decide) (List.mem_cons_of_mem _ mgw_150) d2_fillBass_1 rfl,
    s_iconst X d2_fillBass_4 rfl rfl,
    s_iald X rfl d2_fillBass_5 rfl,
    s_iload X d2_fillBass_6 rfl,
    s_min X (List.mem_cons_of_mem _ mgw_458) (List.mem_cons_of_mem _ mgw_440) (List.mem_cons_of_mem _ mgw_13) (List.mem_cons_of_mem _ mgw_441) d2_fillBass_8 rfl,
    s_istore X d2_fillBass_11 (by decide) rfl,
    s_aload_n X d2_fillBass_13 rfl rfl,
    s_get X (ci := 2) (f := 2) rfl (fun w h => List.mem_cons_of_mem _ (uC_2 w h)) (by decide) (List.mem_cons_of_mem _ mgw_149) d2_fillBass_14 rfl,
    s_iconst X d2_fillBass_17 rfl rfl,
    s_iald X rfl d2_fillBass_18 rfl,
    s_iload X d2_fillBass_19 rfl,
    s_gets X (q := 3) rfl rfl (List.mem_cons_of_mem _ mgw_459) d2_fillBass_21 rfl,
    s_iconst X d2_fillBass_24 rfl rfl,
    s_iald X rfl d2_fillBass_25 rfl,
    s_isub X d2_fillBass_26 rfl,
    s_max X (List.mem_cons_of_mem _ mgw_461) (List.mem_cons_of_mem _ mgw_433) (List.mem_cons_of_mem _ mgw_13) (List.mem_cons_of_mem _ mgw_434) d2_fillBass_27 rfl,
    s_istore X d2_fillBass_30 (by decide) rfl,
    s_iload X d2_fillBass_32 rfl,
    s_iload X d2_fillBass_34 rfl,
    s_icmp_gt X d2_fillBass_36 rfl rfl,
    s_iload X d2_fillBass_39 rfl,
    s_aload_n X d2_fillBass_41 rfl rfl,
    s_iload_n X d2_fillBass_42 rfl rfl,
    s_iload X d2_fillBass_43 rfl,
    s_callV ri_NW_ok X (na := 2) (ci := 2) rfl ⟨ri_cB X 2 mgw_472 (List.mem_cons_of_mem _ mgw_5) (List.mem_cons_of_mem _ mgw_469) (by decide +kernel) rfl rfl ⟨by decide, by decide⟩, X.2.2.2.2.1 _ (List.mem_cons_of_mem _ mgw_471), X.2.2.2.2.1 _ (List.mem_cons_of_mem _ mgp_18)⟩ d2_fillBass_45 rfl,
    s_iand X d2_fillBass_48 rfl,
    s_istore X d2_fillBass_49 (by decide) rfl,
    s_iload X d2_fillBass_51 rfl,
    s_if_eq X d2_fillBass_53 rfl rfl,
    s_aload_n X d2_fillBass_56 rfl rfl,
    s_aload_n X d2_fillBass_57 rfl rfl,
    s_iload_n X d2_fillBass_58 rfl rfl,
    s_iload X d2_fillBass_59 rfl,
    s_callSN ri_NW_ok X ⟨ri_cN X 2 mgw_464 (List.mem_cons_of_mem _ mgw_14) (List.mem_of_getElem? (i := 54) rfl) (by decide +kernel) rfl rfl ⟨by decide, by decide⟩, X.2.2.2.2.1 _ (List.mem_cons_of_mem _ mgw_463), trivial⟩ d2_fillBass_61 rfl,
    s_iload X d2_fillBass_64 rfl,
    s_callV ri_NW_ok X (na := 3) (ci := 2) rfl ⟨ri_cB X 3 mgw_480 (List.mem_cons_of_mem _ mgw_5) (List.mem_cons_of_mem _ mgw_477) (by decide +kernel) rfl rfl ⟨by decide, by decide⟩, X.2.2.2.2.1 _ (List.mem_cons_of_mem _ mgw_479), X.2.2.2.2.1 _ (List.mem_cons_of_mem _ mgp_20)⟩ d2_fillBass_66 rfl,
    s_iinc X d2_fillBass_69 rfl (by decide) rfl,
    s_goto X d2_fillBass_72 rfl,
    s_vret X hret hlocks d2_fillBass_75, trivial⟩
theorem d2_bassChords_0 : decode c2_bassChords 0 = .ok (.aload_n 0, 1) := by decide +kernel
theorem d2_bassChords_1 : decode c2_bassChords 1 = .ok (.getfield 21, 3) := by decide +kernel
theorem d2_bassChords_4 : decode c2_bassChords 4 = .ok (.getfield 105, 3) := by decide +kernel
theorem d2_bassChords_7 : decode c2_bassChords 7 = .ok (.iload_n 1, 1) := by decide +kernel
theorem d2_bassChords_8 : decode c2_bassChords 8 = .ok (.iaload, 1) := by decide +kernel
theorem d2_bassChords_9 : decode c2_bassChords 9 = .ok (.istore_n 3, 1) := by decide +kernel
theorem d2_bassChords_10 : decode c2_bassChords 10 = .ok (.iload_n 3, 1) := by decide +kernel
theorem d2_bassChords_11 : decode c2_bassChords 11 = .ok (.bipush (-2), 2) := by decide +kernel
theorem d2_bassChords_13 : decode c2_bassChords 13 = .ok (.if_icmp .ne 14, 3) := by decide +kernel
theorem d2_bassChords_16 : decode c2_bassChords 16 = .ok (.aload_n 0, 1) := by decide +kernel
theorem d2_bassChords_17 : decode c2_bassChords 17 = .ok (.getfield 25, 3) := by decide +kernel
theorem d2_bassChords_20 : decode c2_bassChords 20 = .ok (.iload_n 2, 1) := by decide +kernel
theorem d2_bassChords_21 : decode c2_bassChords 21 = .ok (.invokevirtual 48, 3) := by decide +kernel
theorem d2_bassChords_24 : decode c2_bassChords 24 = .ok (.goto 12, 3) := by decide +kernel
theorem d2_bassChords_27 : decode c2_bassChords 27 = .ok (.aload_n 0, 1) := by decide +kernel
theorem d2_bassChords_28 : decode c2_bassChords 28 = .ok (.getfield 25, 3) := by decide +kernel
theorem d2_bassChords_31 : decode c2_bassChords 31 = .ok (.iload_n 3, 1) := by decide +kernel
theorem d2_bassChords_32 : decode c2_bassChords 32 = .ok (.iload_n 2, 1) := by decide +kernel
theorem d2_bassChords_33 : decode c2_bassChords 33 = .ok (.invokevirtual 108, 3) := by decide +kernel
theorem d2_bassChords_36 : decode c2_bassChords 36 = .ok (.istore 4, 2) := by decide +kernel
theorem d2_bassChords_38 : decode c2_bassChords 38 = .ok (.aload_n 0, 1) := by decide +kernel
theorem d2_bassChords_39 : decode c2_bassChords 39 = .ok (.getfield 21, 3) := by decide +kernel
theorem d2_bassChords_42 : decode c2_bassChords 42 = .ok (.iload_n 1, 1) := by decide +kernel
theorem d2_bassChords_43 : decode c2_bassChords 43 = .ok (.invokevirtual 97, 3) := by decide +kernel
theorem d2_bassChords_46 : decode c2_bassChords 46 = .ok (.ifCond .eq 18, 3) := by decide +kernel
theorem d2_bassChords_49 : decode c2_bassChords 49 = .ok (.iload 4, 2) := by decide +kernel
theorem d2_bassChords_51 : decode c2_bassChords 51 = .ok (.aload_n 0, 1) := by decide +kernel
theorem d2_bassChords_52 : decode c2_bassChords 52 = .ok (.getfield 25, 3) := by decide +kernel
theorem d2_bassChords_55 : decode c2_bassChords 55 = .ok (.iconst 0, 1) := by decide +kernel
theorem d2_bassChords_56 : decode c2_bassChords 56 = .ok (.iload_n 2, 1) := by decide +kernel
theorem d2_bassChords_57 : decode c2_bassChords 57 = .ok (.invokevirtual 108, 3) := by decide +kernel
theorem d2_bassChords_60 : decode c2_bassChords 60 = .ok (.iand, 1) := by decide +kernel
theorem d2_bassChords_61 : decode c2_bassChords 61 = .ok (.goto 5, 3) := by decide +kernel
theorem d2_bassChords_64 : decode c2_bassChords 64 = .ok (.iload 4, 2) := by decide +kernel
theorem d2_bassChords_66 : decode c2_bassChords 66 = .ok (.ireturn, 1) := by decide +kernel
def t2_bassChords (l : Launch) (Po : ri_O) : List ri_S := [i_al 1 0,
  i_get 2 2 0,
  i_get 3 0 4,
  i_il 4 1,
  i_ald 5 0,
  i_is 6 3,
  i_il 7 3,
  i_con 8 (-2),
  i_icmp 9 14 (fun x y => ¬ x = y),
  i_al 10 0,
  i_get 11 2 1,
  i_il 12 2,
  i_callV 13 2 1 (ri_Ev l y1_chordsWith w1_chordsWith r1_chordsWith 0 0) 0 0 0 0,
  i_goto 19,
  i_al 15 0,
  i_get 16 2 1,
  i_il 17 3,
  i_il 18 2,
  i_callV 19 3 1 (ri_Ev l y1_chordsWithMember w1_chordsWithMember r1_chordsWithMember 0 0) 0 0 0 0,
  i_is 20 4,
  i_al 21 0,
  i_get 22 2 0,
  i_il 23 1,
  i_callV 24 2 0 (ri_Ev l y0_isLast w0_isLast r0_isLast 0 0) 0 0 0 0,
  i_if 25 33 (fun x => x = 0),
  i_il 26 4,
  i_al 27 0,
  i_get 28 2 1,
  i_con 29 0,
  i_il 30 2,
  i_callV 31 3 1 (ri_Ev l y1_chordsWithMember w1_chordsWithMember r1_chordsWithMember 0 0) 0 0 0 0,
  i_bin 32 (fun x y => x &&& y),
  i_goto 34,
  i_il 34 4,
  i_ret Po 0 0]
set_option maxRecDepth 20000 in
set_option maxHeartbeats 4000000 in
theorem z2_bassChords (l : Launch) (Po : ri_O) (p : Program) (e : Env) (s : State) (m : MethodId) (args : Array Value) (below : List Frame) (meth : Method) (c : Code) (D : va_G) (ka : Nat → ClassId) (sa : Nat → Nat) (base : Nat) (X : ri_X p s m args c c2_bassChords 5 w2_bassChords "ChoraleSearch$StateRules" D ka sa base) (hret : meth.sig.returnType = (some .int)) (hlocks : meth.locks = false) (hname : meth.name = "bassChords") : ri_clo (ri_W p l e r2_bassChords s m args below meth c D ka sa base 5 (MQ below (ri_Qc D ka sa base Po) args s 0 0 (fun q => base ≤ q)) p2_bassChords) (t2_bassChords l Po) := by
  refine ri_clo_of ?_
  unfold t2_bassChords
  exact ⟨s_aload_n X d2_bassChords_0 rfl rfl,
    s_get X (ci := 2) (f := 0) rfl (fun w h => List.mem_cons_of_mem _ (uC_2 w h)) (by decide) (List.mem_cons_of_mem _ mgw_147) d2_bassChords_1 rfl,
    s_getN X (ci := 0) (f := 4) rfl (fun w h => List.mem_cons_of_mem _ (uC_0 w h)) (by decide) (List.mem_of_getElem? (i := 9) rfl) d2_bassChords_4 rfl,
    s_iload_n X d2_bassChords_7 rfl rfl,
    s_iald X rfl d2_bassChords_8 rfl,
    s_istore_n X d2_bassChords_9 rfl (by decide) rfl,
    s_iload_n X d2_bassChords_10 rfl rfl,
    s_bipush X d2_bassChords_11 rfl rfl,
    s_icmp_ne X d2_bassChords_13 rfl rfl,
    s_aload_n X d2_bassChords_16 rfl rfl,
    s_get X (ci := 2) (f := 1) rfl (fun w h => List.mem_cons_of_mem _ (uC_2 w h)) (by decide) (List.mem_cons_of_mem _ mgw_148) d2_bassChords_17 rfl,
    s_iload_n X d2_bassChords_20 rfl rfl,
    s_callVN ri_NW_ok X (na := 1) (ci := 1) rfl ⟨ri_cN X 1 mgw_457 (List.mem_cons_of_mem _ mgw_3) (List.mem_of_getElem? (i := 53) rfl) (by decide +kernel) rfl rfl ⟨by decide, by decide⟩, X.2.2.2.2.1 _ (List.mem_cons_of_mem _ mgw_456), X.2.2.2.2.1 _ (List.mem_cons_of_mem _ mgp_16)⟩ d2_bassChords_21 rfl,
    s_goto X d2_bassChords_24 rfl,
    s_aload_n X d2_bassChords_27 rfl rfl,
    s_get X (ci := 2) (f := 1) rfl (fun w h => List.mem_cons_of_mem _ (uC_2 w h)) (by decide) (List.mem_cons_of_mem _ mgw_148) d2_bassChords_28 rfl,
    s_iload_n X d2_bassChords_31 rfl rfl,
    s_iload_n X d2_bassChords_32 rfl rfl,
    s_callVN ri_NW_ok X (na := 2) (ci := 1) rfl ⟨ri_cN X 2 mgw_476 (List.mem_cons_of_mem _ mgw_3) (List.mem_of_getElem? (i := 55) rfl) (by decide +kernel) rfl rfl ⟨by decide, by decide⟩, X.2.2.2.2.1 _ (List.mem_cons_of_mem _ mgw_475), X.2.2.2.2.1 _ (List.mem_cons_of_mem _ mgp_19)⟩ d2_bassChords_33 rfl,
    s_istore X d2_bassChords_36 (by decide) rfl,
    s_aload_n X d2_bassChords_38 rfl rfl,
    s_get X (ci := 2) (f := 0) rfl (fun w h => List.mem_cons_of_mem _ (uC_2 w h)) (by decide) (List.mem_cons_of_mem _ mgw_147) d2_bassChords_39 rfl,
    s_iload_n X d2_bassChords_42 rfl rfl,
    s_callVN ri_NW_ok X (na := 1) (ci := 0) rfl ⟨ri_cN X 1 mgw_453 (List.mem_cons_of_mem _ mgw_2) (List.mem_of_getElem? (i := 52) rfl) (by decide +kernel) rfl rfl ⟨by decide, by decide⟩, X.2.2.2.2.1 _ (List.mem_cons_of_mem _ mgw_452), X.2.2.2.2.1 _ (List.mem_cons_of_mem _ mgp_15)⟩ d2_bassChords_43 rfl,
    s_if_eq X d2_bassChords_46 rfl rfl,
    s_iload X d2_bassChords_49 rfl,
    s_aload_n X d2_bassChords_51 rfl rfl,
    s_get X (ci := 2) (f := 1) rfl (fun w h => List.mem_cons_of_mem _ (uC_2 w h)) (by decide) (List.mem_cons_of_mem _ mgw_148) d2_bassChords_52 rfl,
    s_iconst X d2_bassChords_55 rfl rfl,
    s_iload_n X d2_bassChords_56 rfl rfl,
    s_callVN ri_NW_ok X (na := 2) (ci := 1) rfl ⟨ri_cN X 2 mgw_476 (List.mem_cons_of_mem _ mgw_3) (List.mem_of_getElem? (i := 55) rfl) (by decide +kernel) rfl rfl ⟨by decide, by decide⟩, X.2.2.2.2.1 _ (List.mem_cons_of_mem _ mgw_475), X.2.2.2.2.1 _ (List.mem_cons_of_mem _ mgp_19)⟩ d2_bassChords_57 rfl,
    s_iand X d2_bassChords_60 rfl,
    s_goto X d2_bassChords_61 rfl,
    s_iload X d2_bassChords_64 rfl,
    s_iret X hret hlocks d2_bassChords_66, trivial⟩
theorem d2_addComplete_0 : decode c2_addComplete 0 = .ok (.iconst 0, 1) := by decide +kernel
theorem d2_addComplete_1 : decode c2_addComplete 1 = .ok (.istore 4, 2) := by decide +kernel
theorem d2_addComplete_3 : decode c2_addComplete 3 = .ok (.iload 4, 2) := by decide +kernel
theorem d2_addComplete_5 : decode c2_addComplete 5 = .ok (.bipush 13, 2) := by decide +kernel
theorem d2_addComplete_7 : decode c2_addComplete 7 = .ok (.if_icmp .ge 44, 3) := by decide +kernel
theorem d2_addComplete_10 : decode c2_addComplete 10 = .ok (.iload_n 3, 1) := by decide +kernel
theorem d2_addComplete_11 : decode c2_addComplete 11 = .ok (.iload 4, 2) := by decide +kernel
theorem d2_addComplete_13 : decode c2_addComplete 13 = .ok (.ishr, 1) := by decide +kernel
theorem d2_addComplete_14 : decode c2_addComplete 14 = .ok (.iconst 1, 1) := by decide +kernel
theorem d2_addComplete_15 : decode c2_addComplete 15 = .ok (.iand, 1) := by decide +kernel
theorem d2_addComplete_16 : decode c2_addComplete 16 = .ok (.iconst 1, 1) := by decide +kernel
theorem d2_addComplete_17 : decode c2_addComplete 17 = .ok (.if_icmp .ne 28, 3) := by decide +kernel
theorem d2_addComplete_20 : decode c2_addComplete 20 = .ok (.iload_n 2, 1) := by decide +kernel
theorem d2_addComplete_21 : decode c2_addComplete 21 = .ok (.iload 4, 2) := by decide +kernel
theorem d2_addComplete_23 : decode c2_addComplete 23 = .ok (.invokestatic 87, 3) := by decide +kernel
theorem d2_addComplete_26 : decode c2_addComplete 26 = .ok (.istore 5, 2) := by decide +kernel
theorem d2_addComplete_28 : decode c2_addComplete 28 = .ok (.aload_n 0, 1) := by decide +kernel
theorem d2_addComplete_29 : decode c2_addComplete 29 = .ok (.iload 5, 2) := by decide +kernel
theorem d2_addComplete_31 : decode c2_addComplete 31 = .ok (.iload 4, 2) := by decide +kernel
theorem d2_addComplete_33 : decode c2_addComplete 33 = .ok (.invokevirtual 90, 3) := by decide +kernel
theorem d2_addComplete_36 : decode c2_addComplete 36 = .ok (.ifCond .eq 9, 3) := by decide +kernel
theorem d2_addComplete_39 : decode c2_addComplete 39 = .ok (.aload_n 1, 1) := by decide +kernel
theorem d2_addComplete_40 : decode c2_addComplete 40 = .ok (.iload 5, 2) := by decide +kernel
theorem d2_addComplete_42 : decode c2_addComplete 42 = .ok (.invokevirtual 94, 3) := by decide +kernel
theorem d2_addComplete_45 : decode c2_addComplete 45 = .ok (.iinc 4 1, 3) := by decide +kernel
theorem d2_addComplete_48 : decode c2_addComplete 48 = .ok (.goto (-45), 3) := by decide +kernel
theorem d2_addComplete_51 : decode c2_addComplete 51 = .ok (.return_, 1) := by decide +kernel
def t2_addComplete (l : Launch) (Po : ri_O) : List ri_S := [i_con 1 0,
  i_is 2 4,
  i_il 3 4,
  i_con 4 13,
  i_icmp 5 26 (fun x y => y ≤ x),
  i_il 6 3,
  i_il 7 4,
  i_bin 8 (fun x y => x >>> (y &&& 31)),
  i_con 9 1,
  i_bin 10 (fun x y => x &&& y),
  i_con 11 1,
  i_icmp 12 24 (fun x y => ¬ x = y),
  i_il 13 2,
  i_il 14 4,
  i_call 15 2 (ri_Ev l y11_withChord w11_withChord r11_withChord 0 0) 0 0 0 0,
  i_is 16 5,
  i_al 17 0,
  i_il 18 5,
  i_il 19 4,
  i_callV 20 3 2 (ri_Ev l y2_keepsRules4And5 w2_keepsRules4And5 r2_keepsRules4And5 0 0) 0 0 0 0,
  i_if 21 24 (fun x => x = 0),
  i_al 22 1,
  i_il 23 5,
  i_callV 24 2 5 (ri_Ev l y5_add w5_add r5_add 0 0) 0 0 0 0,
  i_inc 25 4 1,
  i_goto 2,
  i_vret Po 0 0]
set_option maxRecDepth 20000 in
set_option maxHeartbeats 4000000 in
theorem z2_addComplete (l : Launch) (Po : ri_O) (p : Program) (e : Env) (s : State) (m : MethodId) (args : Array Value) (below : List Frame) (meth : Method) (c : Code) (D : va_G) (ka : Nat → ClassId) (sa : Nat → Nat) (base : Nat) (X : ri_X p s m args c c2_addComplete 6 w2_addComplete "ChoraleSearch$StateRules" D ka sa base) (hret : meth.sig.returnType = none) (hlocks : meth.locks = false) (hname : meth.name = "addComplete") : ri_clo (ri_W p l e r2_addComplete s m args below meth c D ka sa base 6 (MQ below (ri_Qc D ka sa base Po) args s 0 0 (fun q => base ≤ q)) p2_addComplete) (t2_addComplete l Po) := by
  refine ri_clo_of ?_
  unfold t2_addComplete
  exact ⟨s_iconst X d2_addComplete_0 rfl rfl,
    s_istore X d2_addComplete_1 (by decide) rfl,
    s_iload X d2_addComplete_3 rfl,
    s_bipush X d2_addComplete_5 rfl rfl,
    s_icmp_ge X d2_addComplete_7 rfl rfl,
    s_iload_n X d2_addComplete_10 rfl rfl,
    s_iload X d2_addComplete_11 rfl,
    s_ishr X d2_addComplete_13 rfl,
    s_iconst X d2_addComplete_14 rfl rfl,
    s_iand X d2_addComplete_15 rfl,
    s_iconst X d2_addComplete_16 rfl rfl,
    s_icmp_ne X d2_addComplete_17 rfl rfl,
    s_iload_n X d2_addComplete_20 rfl rfl,
    s_iload X d2_addComplete_21 rfl,
    s_callSN ri_NW_ok X ⟨ri_cN X 2 mgw_483 (List.mem_cons_of_mem _ mgw_14) (List.mem_of_getElem? (i := 56) rfl) (by decide +kernel) rfl rfl ⟨by decide, by decide⟩, X.2.2.2.2.1 _ (List.mem_cons_of_mem _ mgw_482), trivial⟩ d2_addComplete_23 rfl,
    s_istore X d2_addComplete_26 (by decide) rfl,
    s_aload_n X d2_addComplete_28 rfl rfl,
    s_iload X d2_addComplete_29 rfl,
    s_iload X d2_addComplete_31 rfl,
    s_callV ri_NW_ok X (na := 2) (ci := 2) rfl ⟨ri_cB X 2 mgw_487 (List.mem_cons_of_mem _ mgw_5) (List.mem_cons_of_mem _ mgw_484) (by decide +kernel) rfl rfl ⟨by decide, by decide⟩, X.2.2.2.2.1 _ (List.mem_cons_of_mem _ mgw_486), X.2.2.2.2.1 _ (List.mem_cons_of_mem _ mgp_21)⟩ d2_addComplete_33 rfl,
    s_if_eq X d2_addComplete_36 rfl rfl,
    s_aload_n X d2_addComplete_39 rfl rfl,
    s_iload X d2_addComplete_40 rfl,
    s_callVN ri_NW_ok X (na := 1) (ci := 5) rfl ⟨ri_cN X 1 mgw_502 (List.mem_cons_of_mem _ mgw_8) (List.mem_of_getElem? (i := 60) rfl) (by decide +kernel) rfl rfl ⟨by decide, by decide⟩, X.2.2.2.2.1 _ (List.mem_cons_of_mem _ mgw_501), X.2.2.2.2.1 _ (List.mem_cons_of_mem _ mgp_24)⟩ d2_addComplete_42 rfl,
    s_iinc X d2_addComplete_45 rfl (by decide) rfl,
    s_goto X d2_addComplete_48 rfl,
    s_vret X hret hlocks d2_addComplete_51, trivial⟩
theorem d2_keepsRules4And5_0 : decode c2_keepsRules4And5 0 = .ok (.iload_n 1, 1) := by decide +kernel
theorem d2_keepsRules4And5_1 : decode c2_keepsRules4And5 1 = .ok (.aload_n 0, 1) := by decide +kernel
theorem d2_keepsRules4And5_2 : decode c2_keepsRules4And5 2 = .ok (.getfield 25, 3) := by decide +kernel
theorem d2_keepsRules4And5_5 : decode c2_keepsRules4And5 5 = .ok (.iload_n 2, 1) := by decide +kernel
theorem d2_keepsRules4And5_6 : decode c2_keepsRules4And5 6 = .ok (.iconst 0, 1) := by decide +kernel
theorem d2_keepsRules4And5_7 : decode c2_keepsRules4And5 7 = .ok (.invokevirtual 111, 3) := by decide +kernel
theorem d2_keepsRules4And5_10 : decode c2_keepsRules4And5 10 = .ok (.invokestatic 114, 3) := by decide +kernel
theorem d2_keepsRules4And5_13 : decode c2_keepsRules4And5 13 = .ok (.ifCond .eq 19, 3) := by decide +kernel
theorem d2_keepsRules4And5_16 : decode c2_keepsRules4And5 16 = .ok (.iload_n 1, 1) := by decide +kernel
theorem d2_keepsRules4And5_17 : decode c2_keepsRules4And5 17 = .ok (.aload_n 0, 1) := by decide +kernel
theorem d2_keepsRules4And5_18 : decode c2_keepsRules4And5 18 = .ok (.getfield 25, 3) := by decide +kernel
theorem d2_keepsRules4And5_21 : decode c2_keepsRules4And5 21 = .ok (.iload_n 2, 1) := by decide +kernel
theorem d2_keepsRules4And5_22 : decode c2_keepsRules4And5 22 = .ok (.iconst 1, 1) := by decide +kernel
theorem d2_keepsRules4And5_23 : decode c2_keepsRules4And5 23 = .ok (.invokevirtual 111, 3) := by decide +kernel
theorem d2_keepsRules4And5_26 : decode c2_keepsRules4And5 26 = .ok (.invokestatic 114, 3) := by decide +kernel
theorem d2_keepsRules4And5_29 : decode c2_keepsRules4And5 29 = .ok (.ifCond .ne 5, 3) := by decide +kernel
theorem d2_keepsRules4And5_32 : decode c2_keepsRules4And5 32 = .ok (.iconst 0, 1) := by decide +kernel
theorem d2_keepsRules4And5_33 : decode c2_keepsRules4And5 33 = .ok (.ireturn, 1) := by decide +kernel
theorem d2_keepsRules4And5_34 : decode c2_keepsRules4And5 34 = .ok (.aload_n 0, 1) := by decide +kernel
theorem d2_keepsRules4And5_35 : decode c2_keepsRules4And5 35 = .ok (.getfield 25, 3) := by decide +kernel
theorem d2_keepsRules4And5_38 : decode c2_keepsRules4And5 38 = .ok (.iload_n 2, 1) := by decide +kernel
theorem d2_keepsRules4And5_39 : decode c2_keepsRules4And5 39 = .ok (.iconst 3, 1) := by decide +kernel
theorem d2_keepsRules4And5_40 : decode c2_keepsRules4And5 40 = .ok (.invokevirtual 111, 3) := by decide +kernel
theorem d2_keepsRules4And5_43 : decode c2_keepsRules4And5 43 = .ok (.istore_n 3, 1) := by decide +kernel
theorem d2_keepsRules4And5_44 : decode c2_keepsRules4And5 44 = .ok (.iload_n 3, 1) := by decide +kernel
theorem d2_keepsRules4And5_45 : decode c2_keepsRules4And5 45 = .ok (.bipush (-2), 2) := by decide +kernel
theorem d2_keepsRules4And5_47 : decode c2_keepsRules4And5 47 = .ok (.if_icmp .eq 14, 3) := by decide +kernel
theorem d2_keepsRules4And5_50 : decode c2_keepsRules4And5 50 = .ok (.iload_n 1, 1) := by decide +kernel
theorem d2_keepsRules4And5_51 : decode c2_keepsRules4And5 51 = .ok (.iload_n 3, 1) := by decide +kernel
theorem d2_keepsRules4And5_52 : decode c2_keepsRules4And5 52 = .ok (.invokestatic 114, 3) := by decide +kernel
theorem d2_keepsRules4And5_55 : decode c2_keepsRules4And5 55 = .ok (.iconst 1, 1) := by decide +kernel
theorem d2_keepsRules4And5_56 : decode c2_keepsRules4And5 56 = .ok (.if_icmp .eq 5, 3) := by decide +kernel
theorem d2_keepsRules4And5_59 : decode c2_keepsRules4And5 59 = .ok (.iconst 0, 1) := by decide +kernel
theorem d2_keepsRules4And5_60 : decode c2_keepsRules4And5 60 = .ok (.ireturn, 1) := by decide +kernel
theorem d2_keepsRules4And5_61 : decode c2_keepsRules4And5 61 = .ok (.aload_n 0, 1) := by decide +kernel
theorem d2_keepsRules4And5_62 : decode c2_keepsRules4And5 62 = .ok (.getfield 25, 3) := by decide +kernel
theorem d2_keepsRules4And5_65 : decode c2_keepsRules4And5 65 = .ok (.iload_n 2, 1) := by decide +kernel
theorem d2_keepsRules4And5_66 : decode c2_keepsRules4And5 66 = .ok (.invokevirtual 117, 3) := by decide +kernel
theorem d2_keepsRules4And5_69 : decode c2_keepsRules4And5 69 = .ok (.ifCond .eq 18, 3) := by decide +kernel
theorem d2_keepsRules4And5_72 : decode c2_keepsRules4And5 72 = .ok (.iload_n 1, 1) := by decide +kernel
theorem d2_keepsRules4And5_73 : decode c2_keepsRules4And5 73 = .ok (.aload_n 0, 1) := by decide +kernel
theorem d2_keepsRules4And5_74 : decode c2_keepsRules4And5 74 = .ok (.getfield 25, 3) := by decide +kernel
theorem d2_keepsRules4And5_77 : decode c2_keepsRules4And5 77 = .ok (.getfield 120, 3) := by decide +kernel
theorem d2_keepsRules4And5_80 : decode c2_keepsRules4And5 80 = .ok (.invokestatic 114, 3) := by decide +kernel
theorem d2_keepsRules4And5_83 : decode c2_keepsRules4And5 83 = .ok (.iconst 2, 1) := by decide +kernel
theorem d2_keepsRules4And5_84 : decode c2_keepsRules4And5 84 = .ok (.if_icmp .ge 7, 3) := by decide +kernel
theorem d2_keepsRules4And5_87 : decode c2_keepsRules4And5 87 = .ok (.iconst 1, 1) := by decide +kernel
theorem d2_keepsRules4And5_88 : decode c2_keepsRules4And5 88 = .ok (.goto 4, 3) := by decide +kernel
theorem d2_keepsRules4And5_91 : decode c2_keepsRules4And5 91 = .ok (.iconst 0, 1) := by decide +kernel
theorem d2_keepsRules4And5_92 : decode c2_keepsRules4And5 92 = .ok (.ireturn, 1) := by decide +kernel
def t2_keepsRules4And5 (l : Launch) (Po : ri_O) : List ri_S := [i_il 1 1,
  i_al 2 0,
  i_get 3 2 1,
  i_il 4 2,
  i_con 5 0,
  i_callV 6 3 1 (ri_Ev l y1_memberClass w1_memberClass r1_memberClass 0 0) 0 0 0 0,
  i_call 7 2 (ri_Ev l y11_timesClass w11_timesClass r11_timesClass 0 0) 0 0 0 0,
  i_if 8 16 (fun x => x = 0),
  i_il 9 1,
  i_al 10 0,
  i_get 11 2 1,
  i_il 12 2,
  i_con 13 1,
  i_callV 14 3 1 (ri_Ev l y1_memberClass w1_memberClass r1_memberClass 0 0) 0 0 0 0,
  i_call 15 2 (ri_Ev l y11_timesClass w11_timesClass r11_timesClass 0 0) 0 0 0 0,
  i_if 16 18 (fun x => ¬ x = 0),
  i_con 17 0,
  i_zret Po 0 0,
  i_al 19 0,
  i_get 20 2 1,
  i_il 21 2,
  i_con 22 3,
  i_callV 23 3 1 (ri_Ev l y1_memberClass w1_memberClass r1_memberClass 0 0) 0 0 0 0,
  i_is 24 3,
  i_il 25 3,
  i_con 26 (-2),
  i_icmp 27 34 (fun x y => x = y),
  i_il 28 1,
  i_il 29 3,
  i_call 30 2 (ri_Ev l y11_timesClass w11_timesClass r11_timesClass 0 0) 0 0 0 0,
  i_con 31 1,
  i_icmp 32 34 (fun x y => x = y),
  i_con 33 0,
  i_zret Po 0 0,
  i_al 35 0,
  i_get 36 2 1,
  i_il 37 2,
  i_callV 38 2 1 (ri_Ev l y1_guardsLeading w1_guardsLeading r1_guardsLeading 0 0) 0 0 0 0,
  i_if 39 46 (fun x => x = 0),
  i_il 40 1,
  i_al 41 0,
  i_get 42 2 1,
  i_get 43 1 2,
  i_call 44 2 (ri_Ev l y11_timesClass w11_timesClass r11_timesClass 0 0) 0 0 0 0,
  i_con 45 2,
  i_icmp 46 48 (fun x y => y ≤ x),
  i_con 47 1,
  i_goto 49,
  i_con 49 0,
  i_zret Po 0 0]
set_option maxRecDepth 20000 in
set_option maxHeartbeats 4000000 in
theorem z2_keepsRules4And5 (l : Launch) (Po : ri_O) (p : Program) (e : Env) (s : State) (m : MethodId) (args : Array Value) (below : List Frame) (meth : Method) (c : Code) (D : va_G) (ka : Nat → ClassId) (sa : Nat → Nat) (base : Nat) (X : ri_X p s m args c c2_keepsRules4And5 4 w2_keepsRules4And5 "ChoraleSearch$StateRules" D ka sa base) (hret : meth.sig.returnType = (some .boolean)) (hlocks : meth.locks = false) (hname : meth.name = "keepsRules4And5") : ri_clo (ri_W p l e r2_keepsRules4And5 s m args below meth c D ka sa base 4 (MQ below (ri_Qc D ka sa base Po) args s 0 0 (fun q => base ≤ q)) p2_keepsRules4And5) (t2_keepsRules4And5 l Po) := by
  refine ri_clo_of ?_
  unfold t2_keepsRules4And5
  exact ⟨s_iload_n X d2_keepsRules4And5_0 rfl rfl,
    s_aload_n X d2_keepsRules4And5_1 rfl rfl,
    s_get X (ci := 2) (f := 1) rfl (fun w h => List.mem_cons_of_mem _ (uC_2 w h)) (by decide) (List.mem_cons_of_mem _ mgw_148) d2_keepsRules4And5_2 rfl,
    s_iload_n X d2_keepsRules4And5_5 rfl rfl,
    s_iconst X d2_keepsRules4And5_6 rfl rfl,
    s_callVN ri_NW_ok X (na := 2) (ci := 1) rfl ⟨ri_cN X 2 mgw_491 (List.mem_cons_of_mem _ mgw_3) (List.mem_of_getElem? (i := 57) rfl) (by decide +kernel) rfl rfl ⟨by decide, by decide⟩, X.2.2.2.2.1 _ (List.mem_cons_of_mem _ mgw_490), X.2.2.2.2.1 _ (List.mem_cons_of_mem _ mgp_22)⟩ d2_keepsRules4And5_7 rfl,
    s_callSN ri_NW_ok X ⟨ri_cN X 2 mgw_494 (List.mem_cons_of_mem _ mgw_14) (List.mem_of_getElem? (i := 58) rfl) (by decide +kernel) rfl rfl ⟨by decide, by decide⟩, X.2.2.2.2.1 _ (List.mem_cons_of_mem _ mgw_493), trivial⟩ d2_keepsRules4And5_10 rfl,
    s_if_eq X d2_keepsRules4And5_13 rfl rfl,
    s_iload_n X d2_keepsRules4And5_16 rfl rfl,
    s_aload_n X d2_keepsRules4And5_17 rfl rfl,
    s_get X (ci := 2) (f := 1) rfl (fun w h => List.mem_cons_of_mem _ (uC_2 w h)) (by decide) (List.mem_cons_of_mem _ mgw_148) d2_keepsRules4And5_18 rfl,
    s_iload_n X d2_keepsRules4And5_21 rfl rfl,
    s_iconst X d2_keepsRules4And5_22 rfl rfl,
    s_callVN ri_NW_ok X (na := 2) (ci := 1) rfl ⟨ri_cN X 2 mgw_491 (List.mem_cons_of_mem _ mgw_3) (List.mem_of_getElem? (i := 57) rfl) (by decide +kernel) rfl rfl ⟨by decide, by decide⟩, X.2.2.2.2.1 _ (List.mem_cons_of_mem _ mgw_490), X.2.2.2.2.1 _ (List.mem_cons_of_mem _ mgp_22)⟩ d2_keepsRules4And5_23 rfl,
    s_callSN ri_NW_ok X ⟨ri_cN X 2 mgw_494 (List.mem_cons_of_mem _ mgw_14) (List.mem_of_getElem? (i := 58) rfl) (by decide +kernel) rfl rfl ⟨by decide, by decide⟩, X.2.2.2.2.1 _ (List.mem_cons_of_mem _ mgw_493), trivial⟩ d2_keepsRules4And5_26 rfl,
    s_if_ne X d2_keepsRules4And5_29 rfl rfl,
    s_iconst X d2_keepsRules4And5_32 rfl rfl,
    s_zret X hret hlocks d2_keepsRules4And5_33,
    s_aload_n X d2_keepsRules4And5_34 rfl rfl,
    s_get X (ci := 2) (f := 1) rfl (fun w h => List.mem_cons_of_mem _ (uC_2 w h)) (by decide) (List.mem_cons_of_mem _ mgw_148) d2_keepsRules4And5_35 rfl,
    s_iload_n X d2_keepsRules4And5_38 rfl rfl,
    s_iconst X d2_keepsRules4And5_39 rfl rfl,
    s_callVN ri_NW_ok X (na := 2) (ci := 1) rfl ⟨ri_cN X 2 mgw_491 (List.mem_cons_of_mem _ mgw_3) (List.mem_of_getElem? (i := 57) rfl) (by decide +kernel) rfl rfl ⟨by decide, by decide⟩, X.2.2.2.2.1 _ (List.mem_cons_of_mem _ mgw_490), X.2.2.2.2.1 _ (List.mem_cons_of_mem _ mgp_22)⟩ d2_keepsRules4And5_40 rfl,
    s_istore_n X d2_keepsRules4And5_43 rfl (by decide) rfl,
    s_iload_n X d2_keepsRules4And5_44 rfl rfl,
    s_bipush X d2_keepsRules4And5_45 rfl rfl,
    s_icmp_eq X d2_keepsRules4And5_47 rfl rfl,
    s_iload_n X d2_keepsRules4And5_50 rfl rfl,
    s_iload_n X d2_keepsRules4And5_51 rfl rfl,
    s_callSN ri_NW_ok X ⟨ri_cN X 2 mgw_494 (List.mem_cons_of_mem _ mgw_14) (List.mem_of_getElem? (i := 58) rfl) (by decide +kernel) rfl rfl ⟨by decide, by decide⟩, X.2.2.2.2.1 _ (List.mem_cons_of_mem _ mgw_493), trivial⟩ d2_keepsRules4And5_52 rfl,
    s_iconst X d2_keepsRules4And5_55 rfl rfl,
    s_icmp_eq X d2_keepsRules4And5_56 rfl rfl,
    s_iconst X d2_keepsRules4And5_59 rfl rfl,
    s_zret X hret hlocks d2_keepsRules4And5_60,
    s_aload_n X d2_keepsRules4And5_61 rfl rfl,
    s_get X (ci := 2) (f := 1) rfl (fun w h => List.mem_cons_of_mem _ (uC_2 w h)) (by decide) (List.mem_cons_of_mem _ mgw_148) d2_keepsRules4And5_62 rfl,
    s_iload_n X d2_keepsRules4And5_65 rfl rfl,
    s_callVN ri_NW_ok X (na := 1) (ci := 1) rfl ⟨ri_cN X 1 mgw_498 (List.mem_cons_of_mem _ mgw_3) (List.mem_of_getElem? (i := 59) rfl) (by decide +kernel) rfl rfl ⟨by decide, by decide⟩, X.2.2.2.2.1 _ (List.mem_cons_of_mem _ mgw_497), X.2.2.2.2.1 _ (List.mem_cons_of_mem _ mgp_23)⟩ d2_keepsRules4And5_66 rfl,
    s_if_eq X d2_keepsRules4And5_69 rfl rfl,
    s_iload_n X d2_keepsRules4And5_72 rfl rfl,
    s_aload_n X d2_keepsRules4And5_73 rfl rfl,
    s_get X (ci := 2) (f := 1) rfl (fun w h => List.mem_cons_of_mem _ (uC_2 w h)) (by decide) (List.mem_cons_of_mem _ mgw_148) d2_keepsRules4And5_74 rfl,
    s_getN X (ci := 1) (f := 2) rfl (fun w h => List.mem_cons_of_mem _ (uC_1 w h)) (by decide) (List.mem_of_getElem? (i := 20) rfl) d2_keepsRules4And5_77 rfl,
    s_callSN ri_NW_ok X ⟨ri_cN X 2 mgw_494 (List.mem_cons_of_mem _ mgw_14) (List.mem_of_getElem? (i := 58) rfl) (by decide +kernel) rfl rfl ⟨by decide, by decide⟩, X.2.2.2.2.1 _ (List.mem_cons_of_mem _ mgw_493), trivial⟩ d2_keepsRules4And5_80 rfl,
    s_iconst X d2_keepsRules4And5_83 rfl rfl,
    s_icmp_ge X d2_keepsRules4And5_84 rfl rfl,
    s_iconst X d2_keepsRules4And5_87 rfl rfl,
    s_goto X d2_keepsRules4And5_88 rfl,
    s_iconst X d2_keepsRules4And5_91 rfl rfl,
    s_zret X hret hlocks d2_keepsRules4And5_92, trivial⟩
theorem d2_barring_0 : decode c2_barring 0 = .ok (.aload_n 0, 1) := by decide +kernel
theorem d2_barring_1 : decode c2_barring 1 = .ok (.getfield 21, 3) := by decide +kernel
theorem d2_barring_4 : decode c2_barring 4 = .ok (.iload_n 1, 1) := by decide +kernel
theorem d2_barring_5 : decode c2_barring 5 = .ok (.invokevirtual 39, 3) := by decide +kernel
theorem d2_barring_8 : decode c2_barring 8 = .ok (.istore_n 2, 1) := by decide +kernel
theorem d2_barring_9 : decode c2_barring 9 = .ok (.iconst 0, 1) := by decide +kernel
theorem d2_barring_10 : decode c2_barring 10 = .ok (.istore_n 3, 1) := by decide +kernel
theorem d2_barring_11 : decode c2_barring 11 = .ok (.iconst 0, 1) := by decide +kernel
theorem d2_barring_12 : decode c2_barring 12 = .ok (.istore 4, 2) := by decide +kernel
theorem d2_barring_14 : decode c2_barring 14 = .ok (.iload 4, 2) := by decide +kernel
theorem d2_barring_16 : decode c2_barring 16 = .ok (.bipush 13, 2) := by decide +kernel
theorem d2_barring_18 : decode c2_barring 18 = .ok (.if_icmp .ge 100, 3) := by decide +kernel
theorem d2_barring_21 : decode c2_barring 21 = .ok (.iload_n 2, 1) := by decide +kernel
theorem d2_barring_22 : decode c2_barring 22 = .ok (.iload 4, 2) := by decide +kernel
theorem d2_barring_24 : decode c2_barring 24 = .ok (.ishr, 1) := by decide +kernel
theorem d2_barring_25 : decode c2_barring 25 = .ok (.iconst 1, 1) := by decide +kernel
theorem d2_barring_26 : decode c2_barring 26 = .ok (.iand, 1) := by decide +kernel
theorem d2_barring_27 : decode c2_barring 27 = .ok (.iconst 1, 1) := by decide +kernel
theorem d2_barring_28 : decode c2_barring 28 = .ok (.if_icmp .ne 84, 3) := by decide +kernel
theorem d2_barring_31 : decode c2_barring 31 = .ok (.aload_n 0, 1) := by decide +kernel
theorem d2_barring_32 : decode c2_barring 32 = .ok (.iload_n 1, 1) := by decide +kernel
theorem d2_barring_33 : decode c2_barring 33 = .ok (.iload 4, 2) := by decide +kernel
theorem d2_barring_35 : decode c2_barring 35 = .ok (.invokevirtual 123, 3) := by decide +kernel
theorem d2_barring_38 : decode c2_barring 38 = .ok (.ifCond .eq 74, 3) := by decide +kernel
theorem d2_barring_41 : decode c2_barring 41 = .ok (.iload_n 3, 1) := by decide +kernel
theorem d2_barring_42 : decode c2_barring 42 = .ok (.aload_n 0, 1) := by decide +kernel
theorem d2_barring_43 : decode c2_barring 43 = .ok (.invokevirtual 126, 3) := by decide +kernel
theorem d2_barring_46 : decode c2_barring 46 = .ok (.ifCond .eq 8, 3) := by decide +kernel
theorem d2_barring_49 : decode c2_barring 49 = .ok (.bipush 8, 2) := by decide +kernel
theorem d2_barring_51 : decode c2_barring 51 = .ok (.goto 4, 3) := by decide +kernel
theorem d2_barring_54 : decode c2_barring 54 = .ok (.iconst 0, 1) := by decide +kernel
theorem d2_barring_55 : decode c2_barring 55 = .ok (.ior, 1) := by decide +kernel
theorem d2_barring_56 : decode c2_barring 56 = .ok (.istore_n 3, 1) := by decide +kernel
theorem d2_barring_57 : decode c2_barring 57 = .ok (.iload_n 3, 1) := by decide +kernel
theorem d2_barring_58 : decode c2_barring 58 = .ok (.aload_n 0, 1) := by decide +kernel
theorem d2_barring_59 : decode c2_barring 59 = .ok (.iload 4, 2) := by decide +kernel
theorem d2_barring_61 : decode c2_barring 61 = .ok (.invokevirtual 130, 3) := by decide +kernel
theorem d2_barring_64 : decode c2_barring 64 = .ok (.ifCond .eq 8, 3) := by decide +kernel
theorem d2_barring_67 : decode c2_barring 67 = .ok (.bipush 16, 2) := by decide +kernel
theorem d2_barring_69 : decode c2_barring 69 = .ok (.goto 4, 3) := by decide +kernel
theorem d2_barring_72 : decode c2_barring 72 = .ok (.iconst 0, 1) := by decide +kernel
theorem d2_barring_73 : decode c2_barring 73 = .ok (.ior, 1) := by decide +kernel
theorem d2_barring_74 : decode c2_barring 74 = .ok (.istore_n 3, 1) := by decide +kernel
theorem d2_barring_75 : decode c2_barring 75 = .ok (.iload_n 3, 1) := by decide +kernel
theorem d2_barring_76 : decode c2_barring 76 = .ok (.aload_n 0, 1) := by decide +kernel
theorem d2_barring_77 : decode c2_barring 77 = .ok (.iload 4, 2) := by decide +kernel
theorem d2_barring_79 : decode c2_barring 79 = .ok (.invokevirtual 133, 3) := by decide +kernel
theorem d2_barring_82 : decode c2_barring 82 = .ok (.ifCond .eq 8, 3) := by decide +kernel
theorem d2_barring_85 : decode c2_barring 85 = .ok (.bipush 32, 2) := by decide +kernel
theorem d2_barring_87 : decode c2_barring 87 = .ok (.goto 4, 3) := by decide +kernel
theorem d2_barring_90 : decode c2_barring 90 = .ok (.iconst 0, 1) := by decide +kernel
theorem d2_barring_91 : decode c2_barring 91 = .ok (.ior, 1) := by decide +kernel
theorem d2_barring_92 : decode c2_barring 92 = .ok (.istore_n 3, 1) := by decide +kernel
theorem d2_barring_93 : decode c2_barring 93 = .ok (.iload_n 3, 1) := by decide +kernel
theorem d2_barring_94 : decode c2_barring 94 = .ok (.aload_n 0, 1) := by decide +kernel
theorem d2_barring_95 : decode c2_barring 95 = .ok (.iload_n 1, 1) := by decide +kernel
theorem d2_barring_96 : decode c2_barring 96 = .ok (.iload 4, 2) := by decide +kernel
theorem d2_barring_98 : decode c2_barring 98 = .ok (.invokevirtual 136, 3) := by decide +kernel
theorem d2_barring_101 : decode c2_barring 101 = .ok (.ifCond .eq 8, 3) := by decide +kernel
theorem d2_barring_104 : decode c2_barring 104 = .ok (.bipush 64, 2) := by decide +kernel
theorem d2_barring_106 : decode c2_barring 106 = .ok (.goto 4, 3) := by decide +kernel
theorem d2_barring_109 : decode c2_barring 109 = .ok (.iconst 0, 1) := by decide +kernel
theorem d2_barring_110 : decode c2_barring 110 = .ok (.ior, 1) := by decide +kernel
theorem d2_barring_111 : decode c2_barring 111 = .ok (.istore_n 3, 1) := by decide +kernel
theorem d2_barring_112 : decode c2_barring 112 = .ok (.iinc 4 1, 3) := by decide +kernel
theorem d2_barring_115 : decode c2_barring 115 = .ok (.goto (-101), 3) := by decide +kernel
theorem d2_barring_118 : decode c2_barring 118 = .ok (.iload_n 3, 1) := by decide +kernel
theorem d2_barring_119 : decode c2_barring 119 = .ok (.ireturn, 1) := by decide +kernel
def t2_barring (l : Launch) (Po : ri_O) : List ri_S := [i_al 1 0,
  i_get 2 2 0,
  i_il 3 1,
  i_callV 4 2 0 (ri_Ev l y0_figuredChords w0_figuredChords r0_figuredChords 0 0) 0 0 0 0,
  i_is 5 2,
  i_con 6 0,
  i_is 7 3,
  i_con 8 0,
  i_is 9 4,
  i_il 10 4,
  i_con 11 13,
  i_icmp 12 66 (fun x y => y ≤ x),
  i_il 13 2,
  i_il 14 4,
  i_bin 15 (fun x y => x >>> (y &&& 31)),
  i_con 16 1,
  i_bin 17 (fun x y => x &&& y),
  i_con 18 1,
  i_icmp 19 64 (fun x y => ¬ x = y),
  i_al 20 0,
  i_il 21 1,
  i_il 22 4,
  i_callV 23 3 2 (ri_Ev l y2_surveyVoices w2_surveyVoices r2_surveyVoices 0 0) 0 0 0 0,
  i_if 24 64 (fun x => x = 0),
  i_il 25 3,
  i_al 26 0,
  i_callV 27 1 2 (ri_Ev l y2_someBreak3 w2_someBreak3 r2_someBreak3 0 0) 0 0 0 0,
  i_if 28 30 (fun x => x = 0),
  i_con 29 8,
  i_goto 31,
  i_con 31 0,
  i_bin 32 (fun x y => x ||| y),
  i_is 33 3,
  i_il 34 3,
  i_al 35 0,
  i_il 36 4,
  i_callV 37 2 2 (ri_Ev l y2_someBreak4 w2_someBreak4 r2_someBreak4 0 0) 0 0 0 0,
  i_if 38 40 (fun x => x = 0),
  i_con 39 16,
  i_goto 41,
  i_con 41 0,
  i_bin 42 (fun x y => x ||| y),
  i_is 43 3,
  i_il 44 3,
  i_al 45 0,
  i_il 46 4,
  i_callV 47 2 2 (ri_Ev l y2_someBreak5 w2_someBreak5 r2_someBreak5 0 0) 0 0 0 0,
  i_if 48 50 (fun x => x = 0),
  i_con 49 32,
  i_goto 51,
  i_con 51 0,
  i_bin 52 (fun x y => x ||| y),
  i_is 53 3,
  i_il 54 3,
  i_al 55 0,
  i_il 56 1,
  i_il 57 4,
  i_callV 58 3 2 (ri_Ev l y2_someBreak6 w2_someBreak6 r2_someBreak6 0 0) 0 0 0 0,
  i_if 59 61 (fun x => x = 0),
  i_con 60 64,
  i_goto 62,
  i_con 62 0,
  i_bin 63 (fun x y => x ||| y),
  i_is 64 3,
  i_inc 65 4 1,
  i_goto 9,
  i_il 67 3,
  i_ret Po 0 0]
set_option maxRecDepth 20000 in
set_option maxHeartbeats 4000000 in
theorem z2_barring (l : Launch) (Po : ri_O) (p : Program) (e : Env) (s : State) (m : MethodId) (args : Array Value) (below : List Frame) (meth : Method) (c : Code) (D : va_G) (ka : Nat → ClassId) (sa : Nat → Nat) (base : Nat) (X : ri_X p s m args c c2_barring 5 w2_barring "ChoraleSearch$StateRules" D ka sa base) (hret : meth.sig.returnType = (some .int)) (hlocks : meth.locks = false) (hname : meth.name = "barring") : ri_clo (ri_W p l e r2_barring s m args below meth c D ka sa base 5 (MQ below (ri_Qc D ka sa base Po) args s 0 0 (fun q => base ≤ q)) p2_barring) (t2_barring l Po) := by
  refine ri_clo_of ?_
  unfold t2_barring
  exact ⟨s_aload_n X d2_barring_0 rfl rfl,
    s_get X (ci := 2) (f := 0) rfl (fun w h => List.mem_cons_of_mem _ (uC_2 w h)) (by decide) (List.mem_cons_of_mem _ mgw_147) d2_barring_1 rfl,
    s_iload_n X d2_barring_4 rfl rfl,
    s_callVN ri_NW_ok X (na := 1) (ci := 0) rfl ⟨ri_cN X 1 mgw_445 (List.mem_cons_of_mem _ mgw_2) (List.mem_of_getElem? (i := 51) rfl) (by decide +kernel) rfl rfl ⟨by decide, by decide⟩, X.2.2.2.2.1 _ (List.mem_cons_of_mem _ mgw_444), X.2.2.2.2.1 _ (List.mem_cons_of_mem _ mgp_13)⟩ d2_barring_5 rfl,
    s_istore_n X d2_barring_8 rfl (by decide) rfl,
    s_iconst X d2_barring_9 rfl rfl,
    s_istore_n X d2_barring_10 rfl (by decide) rfl,
    s_iconst X d2_barring_11 rfl rfl,
    s_istore X d2_barring_12 (by decide) rfl,
    s_iload X d2_barring_14 rfl,
    s_bipush X d2_barring_16 rfl rfl,
    s_icmp_ge X d2_barring_18 rfl rfl,
    s_iload_n X d2_barring_21 rfl rfl,
    s_iload X d2_barring_22 rfl,
    s_ishr X d2_barring_24 rfl,
    s_iconst X d2_barring_25 rfl rfl,
    s_iand X d2_barring_26 rfl,
    s_iconst X d2_barring_27 rfl rfl,
    s_icmp_ne X d2_barring_28 rfl rfl,
    s_aload_n X d2_barring_31 rfl rfl,
    s_iload_n X d2_barring_32 rfl rfl,
    s_iload X d2_barring_33 rfl,
    s_callV ri_NW_ok X (na := 2) (ci := 2) rfl ⟨ri_cB X 2 mgw_709 (List.mem_cons_of_mem _ mgw_5) (List.mem_cons_of_mem _ mgw_706) (by decide +kernel) rfl rfl ⟨by decide, by decide⟩, X.2.2.2.2.1 _ (List.mem_cons_of_mem _ mgw_708), X.2.2.2.2.1 _ (List.mem_cons_of_mem _ mgp_59)⟩ d2_barring_35 rfl,
    s_if_eq X d2_barring_38 rfl rfl,
    s_iload_n X d2_barring_41 rfl rfl,
    s_aload_n X d2_barring_42 rfl rfl,
    s_callV ri_NW_ok X (na := 0) (ci := 2) rfl ⟨ri_cB X 0 mgw_725 (List.mem_cons_of_mem _ mgw_5) (List.mem_cons_of_mem _ mgw_722) (by decide +kernel) rfl rfl ⟨by decide, by decide⟩, X.2.2.2.2.1 _ (List.mem_cons_of_mem _ mgw_724), X.2.2.2.2.1 _ (List.mem_cons_of_mem _ mgp_63)⟩ d2_barring_43 rfl,
    s_if_eq X d2_barring_46 rfl rfl,
    s_bipush X d2_barring_49 rfl rfl,
    s_goto X d2_barring_51 rfl,
    s_iconst X d2_barring_54 rfl rfl,
    s_ior X d2_barring_55 rfl,
    s_istore_n X d2_barring_56 rfl (by decide) rfl,
    s_iload_n X d2_barring_57 rfl rfl,
    s_aload_n X d2_barring_58 rfl rfl,
    s_iload X d2_barring_59 rfl,
    s_callV ri_NW_ok X (na := 1) (ci := 2) rfl ⟨ri_cB X 1 mgw_729 (List.mem_cons_of_mem _ mgw_5) (List.mem_cons_of_mem _ mgw_726) (by decide +kernel) rfl rfl ⟨by decide, by decide⟩, X.2.2.2.2.1 _ (List.mem_cons_of_mem _ mgw_728), X.2.2.2.2.1 _ (List.mem_cons_of_mem _ mgp_64)⟩ d2_barring_61 rfl,
    s_if_eq X d2_barring_64 rfl rfl,
    s_bipush X d2_barring_67 rfl rfl,
    s_goto X d2_barring_69 rfl,
    s_iconst X d2_barring_72 rfl rfl,
    s_ior X d2_barring_73 rfl,
    s_istore_n X d2_barring_74 rfl (by decide) rfl,
    s_iload_n X d2_barring_75 rfl rfl,
    s_aload_n X d2_barring_76 rfl rfl,
    s_iload X d2_barring_77 rfl,
    s_callV ri_NW_ok X (na := 1) (ci := 2) rfl ⟨ri_cB X 1 mgw_737 (List.mem_cons_of_mem _ mgw_5) (List.mem_cons_of_mem _ mgw_734) (by decide +kernel) rfl rfl ⟨by decide, by decide⟩, X.2.2.2.2.1 _ (List.mem_cons_of_mem _ mgw_736), X.2.2.2.2.1 _ (List.mem_cons_of_mem _ mgp_66)⟩ d2_barring_79 rfl,
    s_if_eq X d2_barring_82 rfl rfl,
    s_bipush X d2_barring_85 rfl rfl,
    s_goto X d2_barring_87 rfl,
    s_iconst X d2_barring_90 rfl rfl,
    s_ior X d2_barring_91 rfl,
    s_istore_n X d2_barring_92 rfl (by decide) rfl,
    s_iload_n X d2_barring_93 rfl rfl,
    s_aload_n X d2_barring_94 rfl rfl,
    s_iload_n X d2_barring_95 rfl rfl,
    s_iload X d2_barring_96 rfl,
    s_callV ri_NW_ok X (na := 2) (ci := 2) rfl ⟨ri_cB X 2 mgw_745 (List.mem_cons_of_mem _ mgw_5) (List.mem_cons_of_mem _ mgw_742) (by decide +kernel) rfl rfl ⟨by decide, by decide⟩, X.2.2.2.2.1 _ (List.mem_cons_of_mem _ mgw_744), X.2.2.2.2.1 _ (List.mem_cons_of_mem _ mgp_68)⟩ d2_barring_98 rfl,
    s_if_eq X d2_barring_101 rfl rfl,
    s_bipush X d2_barring_104 rfl rfl,
    s_goto X d2_barring_106 rfl,
    s_iconst X d2_barring_109 rfl rfl,
    s_ior X d2_barring_110 rfl,
    s_istore_n X d2_barring_111 rfl (by decide) rfl,
    s_iinc X d2_barring_112 rfl (by decide) rfl,
    s_goto X d2_barring_115 rfl,
    s_iload_n X d2_barring_118 rfl rfl,
    s_iret X hret hlocks d2_barring_119, trivial⟩
theorem d2_surveyVoices_0 : decode c2_surveyVoices 0 = .ok (.iconst 0, 1) := by decide +kernel
theorem d2_surveyVoices_1 : decode c2_surveyVoices 1 = .ok (.istore_n 3, 1) := by decide +kernel
theorem d2_surveyVoices_2 : decode c2_surveyVoices 2 = .ok (.iload_n 3, 1) := by decide +kernel
theorem d2_surveyVoices_3 : decode c2_surveyVoices 3 = .ok (.iconst 4, 1) := by decide +kernel
theorem d2_surveyVoices_4 : decode c2_surveyVoices 4 = .ok (.if_icmp .ge 27, 3) := by decide +kernel
theorem d2_surveyVoices_7 : decode c2_surveyVoices 7 = .ok (.aload_n 0, 1) := by decide +kernel
theorem d2_surveyVoices_8 : decode c2_surveyVoices 8 = .ok (.iload_n 1, 1) := by decide +kernel
theorem d2_surveyVoices_9 : decode c2_surveyVoices 9 = .ok (.iload_n 2, 1) := by decide +kernel
theorem d2_surveyVoices_10 : decode c2_surveyVoices 10 = .ok (.iload_n 3, 1) := by decide +kernel
theorem d2_surveyVoices_11 : decode c2_surveyVoices 11 = .ok (.invokevirtual 139, 3) := by decide +kernel
theorem d2_surveyVoices_14 : decode c2_surveyVoices 14 = .ok (.aload_n 0, 1) := by decide +kernel
theorem d2_surveyVoices_15 : decode c2_surveyVoices 15 = .ok (.getfield 18, 3) := by decide +kernel
theorem d2_surveyVoices_18 : decode c2_surveyVoices 18 = .ok (.iload_n 3, 1) := by decide +kernel
theorem d2_surveyVoices_19 : decode c2_surveyVoices 19 = .ok (.iaload, 1) := by decide +kernel
theorem d2_surveyVoices_20 : decode c2_surveyVoices 20 = .ok (.ifCond .ne 5, 3) := by decide +kernel
theorem d2_surveyVoices_23 : decode c2_surveyVoices 23 = .ok (.iconst 0, 1) := by decide +kernel
theorem d2_surveyVoices_24 : decode c2_surveyVoices 24 = .ok (.ireturn, 1) := by decide +kernel
theorem d2_surveyVoices_25 : decode c2_surveyVoices 25 = .ok (.iinc 3 1, 3) := by decide +kernel
theorem d2_surveyVoices_28 : decode c2_surveyVoices 28 = .ok (.goto (-26), 3) := by decide +kernel
theorem d2_surveyVoices_31 : decode c2_surveyVoices 31 = .ok (.iconst 1, 1) := by decide +kernel
theorem d2_surveyVoices_32 : decode c2_surveyVoices 32 = .ok (.ireturn, 1) := by decide +kernel
def t2_surveyVoices (l : Launch) (Po : ri_O) : List ri_S := [i_con 1 0,
  i_is 2 3,
  i_il 3 3,
  i_con 4 4,
  i_icmp 5 19 (fun x y => y ≤ x),
  i_al 6 0,
  i_il 7 1,
  i_il 8 2,
  i_il 9 3,
  i_callV 10 4 2 (ri_Ev l y2_surveyVoice w2_surveyVoice r2_surveyVoice 0 0) 0 0 0 0,
  i_al 11 0,
  i_get 12 2 4,
  i_il 13 3,
  i_ald 14 0,
  i_if 15 17 (fun x => ¬ x = 0),
  i_con 16 0,
  i_zret Po 0 0,
  i_inc 18 3 1,
  i_goto 2,
  i_con 20 1,
  i_zret Po 0 0]
set_option maxRecDepth 20000 in
set_option maxHeartbeats 4000000 in
theorem z2_surveyVoices (l : Launch) (Po : ri_O) (p : Program) (e : Env) (s : State) (m : MethodId) (args : Array Value) (below : List Frame) (meth : Method) (c : Code) (D : va_G) (ka : Nat → ClassId) (sa : Nat → Nat) (base : Nat) (X : ri_X p s m args c c2_surveyVoices 4 w2_surveyVoices "ChoraleSearch$StateRules" D ka sa base) (hret : meth.sig.returnType = (some .boolean)) (hlocks : meth.locks = false) (hname : meth.name = "surveyVoices") : ri_clo (ri_W p l e r2_surveyVoices s m args below meth c D ka sa base 4 (MQ below (ri_Qc D ka sa base Po) args s 0 0 (fun q => base ≤ q)) p2_surveyVoices) (t2_surveyVoices l Po) := by
  refine ri_clo_of ?_
  unfold t2_surveyVoices
  exact ⟨s_iconst X d2_surveyVoices_0 rfl rfl,
    s_istore_n X d2_surveyVoices_1 rfl (by decide) rfl,
    s_iload_n X d2_surveyVoices_2 rfl rfl,
    s_iconst X d2_surveyVoices_3 rfl rfl,
    s_icmp_ge X d2_surveyVoices_4 rfl rfl,
    s_aload_n X d2_surveyVoices_7 rfl rfl,
    s_iload_n X d2_surveyVoices_8 rfl rfl,
    s_iload_n X d2_surveyVoices_9 rfl rfl,
    s_iload_n X d2_surveyVoices_10 rfl rfl,
    s_callV ri_NW_ok X (na := 3) (ci := 2) rfl ⟨ri_cB X 3 mgw_713 (List.mem_cons_of_mem _ mgw_5) (List.mem_cons_of_mem _ mgw_710) (by decide +kernel) rfl rfl ⟨by decide, by decide⟩, X.2.2.2.2.1 _ (List.mem_cons_of_mem _ mgw_712), X.2.2.2.2.1 _ (List.mem_cons_of_mem _ mgp_60)⟩ d2_surveyVoices_11 rfl,
    s_aload_n X d2_surveyVoices_14 rfl rfl,
    s_get X (ci := 2) (f := 4) rfl (fun w h => List.mem_cons_of_mem _ (uC_2 w h)) (by decide) (List.mem_cons_of_mem _ mgw_151) d2_surveyVoices_15 rfl,
    s_iload_n X d2_surveyVoices_18 rfl rfl,
    s_iald X rfl d2_surveyVoices_19 rfl,
    s_if_ne X d2_surveyVoices_20 rfl rfl,
    s_iconst X d2_surveyVoices_23 rfl rfl,
    s_zret X hret hlocks d2_surveyVoices_24,
    s_iinc X d2_surveyVoices_25 rfl (by decide) rfl,
    s_goto X d2_surveyVoices_28 rfl,
    s_iconst X d2_surveyVoices_31 rfl rfl,
    s_zret X hret hlocks d2_surveyVoices_32, trivial⟩
theorem d2_surveyVoice_0 : decode c2_surveyVoice 0 = .ok (.aload_n 0, 1) := by decide +kernel
theorem d2_surveyVoice_1 : decode c2_surveyVoice 1 = .ok (.getfield 18, 3) := by decide +kernel
theorem d2_surveyVoice_4 : decode c2_surveyVoice 4 = .ok (.iload_n 3, 1) := by decide +kernel
theorem d2_surveyVoice_5 : decode c2_surveyVoice 5 = .ok (.iconst 0, 1) := by decide +kernel
theorem d2_surveyVoice_6 : decode c2_surveyVoice 6 = .ok (.iastore, 1) := by decide +kernel
theorem d2_surveyVoice_7 : decode c2_surveyVoice 7 = .ok (.aload_n 0, 1) := by decide +kernel
theorem d2_surveyVoice_8 : decode c2_surveyVoice 8 = .ok (.getfield 21, 3) := by decide +kernel
theorem d2_surveyVoice_11 : decode c2_surveyVoice 11 = .ok (.iload_n 3, 1) := by decide +kernel
theorem d2_surveyVoice_12 : decode c2_surveyVoice 12 = .ok (.iload_n 1, 1) := by decide +kernel
theorem d2_surveyVoice_13 : decode c2_surveyVoice 13 = .ok (.invokevirtual 77, 3) := by decide +kernel
theorem d2_surveyVoice_16 : decode c2_surveyVoice 16 = .ok (.istore 4, 2) := by decide +kernel
theorem d2_surveyVoice_18 : decode c2_surveyVoice 18 = .ok (.aload_n 0, 1) := by decide +kernel
theorem d2_surveyVoice_19 : decode c2_surveyVoice 19 = .ok (.getfield 21, 3) := by decide +kernel
theorem d2_surveyVoice_22 : decode c2_surveyVoice 22 = .ok (.iload_n 3, 1) := by decide +kernel
theorem d2_surveyVoice_23 : decode c2_surveyVoice 23 = .ok (.iload_n 1, 1) := by decide +kernel
theorem d2_surveyVoice_24 : decode c2_surveyVoice 24 = .ok (.invokevirtual 74, 3) := by decide +kernel
theorem d2_surveyVoice_27 : decode c2_surveyVoice 27 = .ok (.istore 5, 2) := by decide +kernel
theorem d2_surveyVoice_29 : decode c2_surveyVoice 29 = .ok (.iload 5, 2) := by decide +kernel
theorem d2_surveyVoice_31 : decode c2_surveyVoice 31 = .ok (.iload 4, 2) := by decide +kernel
theorem d2_surveyVoice_33 : decode c2_surveyVoice 33 = .ok (.if_icmp .gt 77, 3) := by decide +kernel
theorem d2_surveyVoice_36 : decode c2_surveyVoice 36 = .ok (.aload_n 0, 1) := by decide +kernel
theorem d2_surveyVoice_37 : decode c2_surveyVoice 37 = .ok (.iload_n 2, 1) := by decide +kernel
theorem d2_surveyVoice_38 : decode c2_surveyVoice 38 = .ok (.iload 5, 2) := by decide +kernel
theorem d2_surveyVoice_40 : decode c2_surveyVoice 40 = .ok (.bipush 12, 2) := by decide +kernel
theorem d2_surveyVoice_42 : decode c2_surveyVoice 42 = .ok (.irem, 1) := by decide +kernel
theorem d2_surveyVoice_43 : decode c2_surveyVoice 43 = .ok (.invokevirtual 143, 3) := by decide +kernel
theorem d2_surveyVoice_46 : decode c2_surveyVoice 46 = .ok (.istore 6, 2) := by decide +kernel
theorem d2_surveyVoice_48 : decode c2_surveyVoice 48 = .ok (.iload 6, 2) := by decide +kernel
theorem d2_surveyVoice_50 : decode c2_surveyVoice 50 = .ok (.bipush (-2), 2) := by decide +kernel
theorem d2_surveyVoice_52 : decode c2_surveyVoice 52 = .ok (.if_icmp .eq 52, 3) := by decide +kernel
theorem d2_surveyVoice_55 : decode c2_surveyVoice 55 = .ok (.aload_n 0, 1) := by decide +kernel
theorem d2_surveyVoice_56 : decode c2_surveyVoice 56 = .ok (.iload_n 1, 1) := by decide +kernel
theorem d2_surveyVoice_57 : decode c2_surveyVoice 57 = .ok (.iload_n 3, 1) := by decide +kernel
theorem d2_surveyVoice_58 : decode c2_surveyVoice 58 = .ok (.iload 6, 2) := by decide +kernel
theorem d2_surveyVoice_60 : decode c2_surveyVoice 60 = .ok (.invokevirtual 146, 3) := by decide +kernel
theorem d2_surveyVoice_63 : decode c2_surveyVoice 63 = .ok (.ifCond .eq 41, 3) := by decide +kernel
theorem d2_surveyVoice_66 : decode c2_surveyVoice 66 = .ok (.aload_n 0, 1) := by decide +kernel
theorem d2_surveyVoice_67 : decode c2_surveyVoice 67 = .ok (.getfield 18, 3) := by decide +kernel
theorem d2_surveyVoice_70 : decode c2_surveyVoice 70 = .ok (.iload_n 3, 1) := by decide +kernel
theorem d2_surveyVoice_71 : decode c2_surveyVoice 71 = .ok (.iaload, 1) := by decide +kernel
theorem d2_surveyVoice_72 : decode c2_surveyVoice 72 = .ok (.ifCond .ne 11, 3) := by decide +kernel
theorem d2_surveyVoice_75 : decode c2_surveyVoice 75 = .ok (.aload_n 0, 1) := by decide +kernel
theorem d2_surveyVoice_76 : decode c2_surveyVoice 76 = .ok (.getfield 9, 3) := by decide +kernel
theorem d2_surveyVoice_79 : decode c2_surveyVoice 79 = .ok (.iload_n 3, 1) := by decide +kernel
theorem d2_surveyVoice_80 : decode c2_surveyVoice 80 = .ok (.iload 5, 2) := by decide +kernel
theorem d2_surveyVoice_82 : decode c2_surveyVoice 82 = .ok (.iastore, 1) := by decide +kernel
theorem d2_surveyVoice_83 : decode c2_surveyVoice 83 = .ok (.aload_n 0, 1) := by decide +kernel
theorem d2_surveyVoice_84 : decode c2_surveyVoice 84 = .ok (.getfield 15, 3) := by decide +kernel
theorem d2_surveyVoice_87 : decode c2_surveyVoice 87 = .ok (.iload_n 3, 1) := by decide +kernel
theorem d2_surveyVoice_88 : decode c2_surveyVoice 88 = .ok (.iload 5, 2) := by decide +kernel
theorem d2_surveyVoice_90 : decode c2_surveyVoice 90 = .ok (.iastore, 1) := by decide +kernel
theorem d2_surveyVoice_91 : decode c2_surveyVoice 91 = .ok (.aload_n 0, 1) := by decide +kernel
theorem d2_surveyVoice_92 : decode c2_surveyVoice 92 = .ok (.getfield 18, 3) := by decide +kernel
theorem d2_surveyVoice_95 : decode c2_surveyVoice 95 = .ok (.iload_n 3, 1) := by decide +kernel
theorem d2_surveyVoice_96 : decode c2_surveyVoice 96 = .ok (.dup2, 1) := by decide +kernel
theorem d2_surveyVoice_97 : decode c2_surveyVoice 97 = .ok (.iaload, 1) := by decide +kernel
theorem d2_surveyVoice_98 : decode c2_surveyVoice 98 = .ok (.iconst 1, 1) := by decide +kernel
theorem d2_surveyVoice_99 : decode c2_surveyVoice 99 = .ok (.iload 6, 2) := by decide +kernel
theorem d2_surveyVoice_101 : decode c2_surveyVoice 101 = .ok (.ishl, 1) := by decide +kernel
theorem d2_surveyVoice_102 : decode c2_surveyVoice 102 = .ok (.ior, 1) := by decide +kernel
theorem d2_surveyVoice_103 : decode c2_surveyVoice 103 = .ok (.iastore, 1) := by decide +kernel
theorem d2_surveyVoice_104 : decode c2_surveyVoice 104 = .ok (.iinc 5 1, 3) := by decide +kernel
theorem d2_surveyVoice_107 : decode c2_surveyVoice 107 = .ok (.goto (-78), 3) := by decide +kernel
theorem d2_surveyVoice_110 : decode c2_surveyVoice 110 = .ok (.return_, 1) := by decide +kernel
def t2_surveyVoice (l : Launch) (Po : ri_O) : List ri_S := [i_al 1 0,
  i_get 2 2 4,
  i_il 3 3,
  i_con 4 0,
  i_ast 5 0 (fun x => x),
  i_al 6 0,
  i_get 7 2 0,
  i_il 8 3,
  i_il 9 1,
  i_callV 10 3 0 (ri_Ev l y0_highAt w0_highAt r0_highAt 0 0) 0 0 0 0,
  i_is 11 4,
  i_al 12 0,
  i_get 13 2 0,
  i_il 14 3,
  i_il 15 1,
  i_callV 16 3 0 (ri_Ev l y0_lowAt w0_lowAt r0_lowAt 0 0) 0 0 0 0,
  i_is 17 5,
  i_il 18 5,
  i_il 19 4,
  i_icmp 20 63 (fun x y => y < x),
  i_al 21 0,
  i_il 22 2,
  i_il 23 5,
  i_con 24 12,
  i_div 25 (fun x y => x - x / y * y),
  i_callV 26 3 2 (ri_Ev l y2_memberAt w2_memberAt r2_memberAt 0 0) 0 0 0 0,
  i_is 27 6,
  i_il 28 6,
  i_con 29 (-2),
  i_icmp 30 61 (fun x y => x = y),
  i_al 31 0,
  i_il 32 1,
  i_il 33 3,
  i_il 34 6,
  i_callV 35 4 2 (ri_Ev l y2_maySound w2_maySound r2_maySound 0 0) 0 0 0 0,
  i_if 36 61 (fun x => x = 0),
  i_al 37 0,
  i_get 38 2 4,
  i_il 39 3,
  i_ald 40 0,
  i_if 41 46 (fun x => ¬ x = 0),
  i_al 42 0,
  i_get 43 2 2,
  i_il 44 3,
  i_il 45 5,
  i_ast 46 0 (fun x => x),
  i_al 47 0,
  i_get 48 2 3,
  i_il 49 3,
  i_il 50 5,
  i_ast 51 0 (fun x => x),
  i_al 52 0,
  i_get 53 2 4,
  i_il 54 3,
  i_dup2 55,
  i_ald 56 0,
  i_con 57 1,
  i_il 58 6,
  i_bin 59 (fun x y => x <<< (y &&& 31)),
  i_bin 60 (fun x y => x ||| y),
  i_ast 61 0 (fun x => x),
  i_inc 62 5 1,
  i_goto 17,
  i_vret Po 0 0]
set_option maxRecDepth 20000 in
set_option maxHeartbeats 4000000 in
theorem z2_surveyVoice (l : Launch) (Po : ri_O) (p : Program) (e : Env) (s : State) (m : MethodId) (args : Array Value) (below : List Frame) (meth : Method) (c : Code) (D : va_G) (ka : Nat → ClassId) (sa : Nat → Nat) (base : Nat) (X : ri_X p s m args c c2_surveyVoice 7 w2_surveyVoice "ChoraleSearch$StateRules" D ka sa base) (hret : meth.sig.returnType = none) (hlocks : meth.locks = false) (hname : meth.name = "surveyVoice") : ri_clo (ri_W p l e r2_surveyVoice s m args below meth c D ka sa base 7 (MQ below (ri_Qc D ka sa base Po) args s 0 0 (fun q => base ≤ q)) p2_surveyVoice) (t2_surveyVoice l Po) := by
  refine ri_clo_of ?_
  unfold t2_surveyVoice
  exact ⟨s_aload_n X d2_surveyVoice_0 rfl rfl,
    s_get X (ci := 2) (f := 4) rfl (fun w h => List.mem_cons_of_mem _ (uC_2 w h)) (by decide) (List.mem_cons_of_mem _ mgw_151) d2_surveyVoice_1 rfl,
    s_iload_n X d2_surveyVoice_4 rfl rfl,
    s_iconst X d2_surveyVoice_5 rfl rfl,
    s_iast X rfl d2_surveyVoice_6 rfl,
    s_aload_n X d2_surveyVoice_7 rfl rfl,
    s_get X (ci := 2) (f := 0) rfl (fun w h => List.mem_cons_of_mem _ (uC_2 w h)) (by decide) (List.mem_cons_of_mem _ mgw_147) d2_surveyVoice_8 rfl,
    s_iload_n X d2_surveyVoice_11 rfl rfl,
    s_iload_n X d2_surveyVoice_12 rfl rfl,
    s_callVN ri_NW_ok X (na := 2) (ci := 0) rfl ⟨ri_cN X 2 mgw_438 (List.mem_cons_of_mem _ mgw_2) (List.mem_of_getElem? (i := 50) rfl) (by decide +kernel) rfl rfl ⟨by decide, by decide⟩, X.2.2.2.2.1 _ (List.mem_cons_of_mem _ mgw_437), X.2.2.2.2.1 _ (List.mem_cons_of_mem _ mgp_12)⟩ d2_surveyVoice_13 rfl,
    s_istore X d2_surveyVoice_16 (by decide) rfl,
    s_aload_n X d2_surveyVoice_18 rfl rfl,
    s_get X (ci := 2) (f := 0) rfl (fun w h => List.mem_cons_of_mem _ (uC_2 w h)) (by decide) (List.mem_cons_of_mem _ mgw_147) d2_surveyVoice_19 rfl,
    s_iload_n X d2_surveyVoice_22 rfl rfl,
    s_iload_n X d2_surveyVoice_23 rfl rfl,
    s_callVN ri_NW_ok X (na := 2) (ci := 0) rfl ⟨ri_cN X 2 mgw_431 (List.mem_cons_of_mem _ mgw_2) (List.mem_of_getElem? (i := 49) rfl) (by decide +kernel) rfl rfl ⟨by decide, by decide⟩, X.2.2.2.2.1 _ (List.mem_cons_of_mem _ mgw_430), X.2.2.2.2.1 _ (List.mem_cons_of_mem _ mgp_11)⟩ d2_surveyVoice_24 rfl,
    s_istore X d2_surveyVoice_27 (by decide) rfl,
    s_iload X d2_surveyVoice_29 rfl,
    s_iload X d2_surveyVoice_31 rfl,
    s_icmp_gt X d2_surveyVoice_33 rfl rfl,
    s_aload_n X d2_surveyVoice_36 rfl rfl,
    s_iload_n X d2_surveyVoice_37 rfl rfl,
    s_iload X d2_surveyVoice_38 rfl,
    s_bipush X d2_surveyVoice_40 rfl rfl,
    s_irem X d2_surveyVoice_42 rfl,
    s_callV ri_NW_ok X (na := 2) (ci := 2) rfl ⟨ri_cB X 2 mgw_717 (List.mem_cons_of_mem _ mgw_5) (List.mem_cons_of_mem _ mgw_714) (by decide +kernel) rfl rfl ⟨by decide, by decide⟩, X.2.2.2.2.1 _ (List.mem_cons_of_mem _ mgw_716), X.2.2.2.2.1 _ (List.mem_cons_of_mem _ mgp_61)⟩ d2_surveyVoice_43 rfl,
    s_istore X d2_surveyVoice_46 (by decide) rfl,
    s_iload X d2_surveyVoice_48 rfl,
    s_bipush X d2_surveyVoice_50 rfl rfl,
    s_icmp_eq X d2_surveyVoice_52 rfl rfl,
    s_aload_n X d2_surveyVoice_55 rfl rfl,
    s_iload_n X d2_surveyVoice_56 rfl rfl,
    s_iload_n X d2_surveyVoice_57 rfl rfl,
    s_iload X d2_surveyVoice_58 rfl,
    s_callV ri_NW_ok X (na := 3) (ci := 2) rfl ⟨ri_cB X 3 mgw_721 (List.mem_cons_of_mem _ mgw_5) (List.mem_cons_of_mem _ mgw_718) (by decide +kernel) rfl rfl ⟨by decide, by decide⟩, X.2.2.2.2.1 _ (List.mem_cons_of_mem _ mgw_720), X.2.2.2.2.1 _ (List.mem_cons_of_mem _ mgp_62)⟩ d2_surveyVoice_60 rfl,
    s_if_eq X d2_surveyVoice_63 rfl rfl,
    s_aload_n X d2_surveyVoice_66 rfl rfl,
    s_get X (ci := 2) (f := 4) rfl (fun w h => List.mem_cons_of_mem _ (uC_2 w h)) (by decide) (List.mem_cons_of_mem _ mgw_151) d2_surveyVoice_67 rfl,
    s_iload_n X d2_surveyVoice_70 rfl rfl,
    s_iald X rfl d2_surveyVoice_71 rfl,
    s_if_ne X d2_surveyVoice_72 rfl rfl,
    s_aload_n X d2_surveyVoice_75 rfl rfl,
    s_get X (ci := 2) (f := 2) rfl (fun w h => List.mem_cons_of_mem _ (uC_2 w h)) (by decide) (List.mem_cons_of_mem _ mgw_149) d2_surveyVoice_76 rfl,
    s_iload_n X d2_surveyVoice_79 rfl rfl,
    s_iload X d2_surveyVoice_80 rfl,
    s_iast X rfl d2_surveyVoice_82 rfl,
    s_aload_n X d2_surveyVoice_83 rfl rfl,
    s_get X (ci := 2) (f := 3) rfl (fun w h => List.mem_cons_of_mem _ (uC_2 w h)) (by decide) (List.mem_cons_of_mem _ mgw_150) d2_surveyVoice_84 rfl,
    s_iload_n X d2_surveyVoice_87 rfl rfl,
    s_iload X d2_surveyVoice_88 rfl,
    s_iast X rfl d2_surveyVoice_90 rfl,
    s_aload_n X d2_surveyVoice_91 rfl rfl,
    s_get X (ci := 2) (f := 4) rfl (fun w h => List.mem_cons_of_mem _ (uC_2 w h)) (by decide) (List.mem_cons_of_mem _ mgw_151) d2_surveyVoice_92 rfl,
    s_iload_n X d2_surveyVoice_95 rfl rfl,
    s_dup2 X d2_surveyVoice_96 rfl,
    s_iald X rfl d2_surveyVoice_97 rfl,
    s_iconst X d2_surveyVoice_98 rfl rfl,
    s_iload X d2_surveyVoice_99 rfl,
    s_ishl X d2_surveyVoice_101 rfl,
    s_ior X d2_surveyVoice_102 rfl,
    s_iast X rfl d2_surveyVoice_103 rfl,
    s_iinc X d2_surveyVoice_104 rfl (by decide) rfl,
    s_goto X d2_surveyVoice_107 rfl,
    s_vret X hret hlocks d2_surveyVoice_110, trivial⟩
theorem d2_memberAt_0 : decode c2_memberAt 0 = .ok (.iconst 0, 1) := by decide +kernel
theorem d2_memberAt_1 : decode c2_memberAt 1 = .ok (.istore_n 3, 1) := by decide +kernel
theorem d2_memberAt_2 : decode c2_memberAt 2 = .ok (.iload_n 3, 1) := by decide +kernel
theorem d2_memberAt_3 : decode c2_memberAt 3 = .ok (.iconst 4, 1) := by decide +kernel
theorem d2_memberAt_4 : decode c2_memberAt 4 = .ok (.if_icmp .ge 24, 3) := by decide +kernel
theorem d2_memberAt_7 : decode c2_memberAt 7 = .ok (.aload_n 0, 1) := by decide +kernel
theorem d2_memberAt_8 : decode c2_memberAt 8 = .ok (.getfield 25, 3) := by decide +kernel
theorem d2_memberAt_11 : decode c2_memberAt 11 = .ok (.iload_n 1, 1) := by decide +kernel
theorem d2_memberAt_12 : decode c2_memberAt 12 = .ok (.iload_n 3, 1) := by decide +kernel
theorem d2_memberAt_13 : decode c2_memberAt 13 = .ok (.invokevirtual 111, 3) := by decide +kernel
theorem d2_memberAt_16 : decode c2_memberAt 16 = .ok (.iload_n 2, 1) := by decide +kernel
theorem d2_memberAt_17 : decode c2_memberAt 17 = .ok (.if_icmp .ne 5, 3) := by decide +kernel
theorem d2_memberAt_20 : decode c2_memberAt 20 = .ok (.iload_n 3, 1) := by decide +kernel
theorem d2_memberAt_21 : decode c2_memberAt 21 = .ok (.ireturn, 1) := by decide +kernel
theorem d2_memberAt_22 : decode c2_memberAt 22 = .ok (.iinc 3 1, 3) := by decide +kernel
theorem d2_memberAt_25 : decode c2_memberAt 25 = .ok (.goto (-23), 3) := by decide +kernel
theorem d2_memberAt_28 : decode c2_memberAt 28 = .ok (.bipush (-2), 2) := by decide +kernel
theorem d2_memberAt_30 : decode c2_memberAt 30 = .ok (.ireturn, 1) := by decide +kernel
def t2_memberAt (l : Launch) (Po : ri_O) : List ri_S := [i_con 1 0,
  i_is 2 3,
  i_il 3 3,
  i_con 4 4,
  i_icmp 5 16 (fun x y => y ≤ x),
  i_al 6 0,
  i_get 7 2 1,
  i_il 8 1,
  i_il 9 3,
  i_callV 10 3 1 (ri_Ev l y1_memberClass w1_memberClass r1_memberClass 0 0) 0 0 0 0,
  i_il 11 2,
  i_icmp 12 14 (fun x y => ¬ x = y),
  i_il 13 3,
  i_ret Po 0 0,
  i_inc 15 3 1,
  i_goto 2,
  i_con 17 (-2),
  i_ret Po 0 0]
set_option maxRecDepth 20000 in
set_option maxHeartbeats 4000000 in
theorem z2_memberAt (l : Launch) (Po : ri_O) (p : Program) (e : Env) (s : State) (m : MethodId) (args : Array Value) (below : List Frame) (meth : Method) (c : Code) (D : va_G) (ka : Nat → ClassId) (sa : Nat → Nat) (base : Nat) (X : ri_X p s m args c c2_memberAt 4 w2_memberAt "ChoraleSearch$StateRules" D ka sa base) (hret : meth.sig.returnType = (some .int)) (hlocks : meth.locks = false) (hname : meth.name = "memberAt") : ri_clo (ri_W p l e r2_memberAt s m args below meth c D ka sa base 4 (MQ below (ri_Qc D ka sa base Po) args s 0 0 (fun q => base ≤ q)) p2_memberAt) (t2_memberAt l Po) := by
  refine ri_clo_of ?_
  unfold t2_memberAt
  exact ⟨s_iconst X d2_memberAt_0 rfl rfl,
    s_istore_n X d2_memberAt_1 rfl (by decide) rfl,
    s_iload_n X d2_memberAt_2 rfl rfl,
    s_iconst X d2_memberAt_3 rfl rfl,
    s_icmp_ge X d2_memberAt_4 rfl rfl,
    s_aload_n X d2_memberAt_7 rfl rfl,
    s_get X (ci := 2) (f := 1) rfl (fun w h => List.mem_cons_of_mem _ (uC_2 w h)) (by decide) (List.mem_cons_of_mem _ mgw_148) d2_memberAt_8 rfl,
    s_iload_n X d2_memberAt_11 rfl rfl,
    s_iload_n X d2_memberAt_12 rfl rfl,
    s_callVN ri_NW_ok X (na := 2) (ci := 1) rfl ⟨ri_cN X 2 mgw_491 (List.mem_cons_of_mem _ mgw_3) (List.mem_of_getElem? (i := 57) rfl) (by decide +kernel) rfl rfl ⟨by decide, by decide⟩, X.2.2.2.2.1 _ (List.mem_cons_of_mem _ mgw_490), X.2.2.2.2.1 _ (List.mem_cons_of_mem _ mgp_22)⟩ d2_memberAt_13 rfl,
    s_iload_n X d2_memberAt_16 rfl rfl,
    s_icmp_ne X d2_memberAt_17 rfl rfl,
    s_iload_n X d2_memberAt_20 rfl rfl,
    s_iret X hret hlocks d2_memberAt_21,
    s_iinc X d2_memberAt_22 rfl (by decide) rfl,
    s_goto X d2_memberAt_25 rfl,
    s_bipush X d2_memberAt_28 rfl rfl,
    s_iret X hret hlocks d2_memberAt_30, trivial⟩
theorem d2_maySound_0 : decode c2_maySound 0 = .ok (.iload_n 2, 1) := by decide +kernel
theorem d2_maySound_1 : decode c2_maySound 1 = .ok (.iconst 3, 1) := by decide +kernel
theorem d2_maySound_2 : decode c2_maySound 2 = .ok (.if_icmp .ne 30, 3) := by decide +kernel
theorem d2_maySound_5 : decode c2_maySound 5 = .ok (.aload_n 0, 1) := by decide +kernel
theorem d2_maySound_6 : decode c2_maySound 6 = .ok (.getfield 21, 3) := by decide +kernel
theorem d2_maySound_9 : decode c2_maySound 9 = .ok (.getfield 105, 3) := by decide +kernel
theorem d2_maySound_12 : decode c2_maySound 12 = .ok (.iload_n 1, 1) := by decide +kernel
theorem d2_maySound_13 : decode c2_maySound 13 = .ok (.iaload, 1) := by decide +kernel
theorem d2_maySound_14 : decode c2_maySound 14 = .ok (.bipush (-2), 2) := by decide +kernel
theorem d2_maySound_16 : decode c2_maySound 16 = .ok (.if_icmp .eq 16, 3) := by decide +kernel
theorem d2_maySound_19 : decode c2_maySound 19 = .ok (.aload_n 0, 1) := by decide +kernel
theorem d2_maySound_20 : decode c2_maySound 20 = .ok (.getfield 21, 3) := by decide +kernel
theorem d2_maySound_23 : decode c2_maySound 23 = .ok (.getfield 105, 3) := by decide +kernel
theorem d2_maySound_26 : decode c2_maySound 26 = .ok (.iload_n 1, 1) := by decide +kernel
theorem d2_maySound_27 : decode c2_maySound 27 = .ok (.iaload, 1) := by decide +kernel
theorem d2_maySound_28 : decode c2_maySound 28 = .ok (.iload_n 3, 1) := by decide +kernel
theorem d2_maySound_29 : decode c2_maySound 29 = .ok (.if_icmp .ne 7, 3) := by decide +kernel
theorem d2_maySound_32 : decode c2_maySound 32 = .ok (.iconst 1, 1) := by decide +kernel
theorem d2_maySound_33 : decode c2_maySound 33 = .ok (.goto 4, 3) := by decide +kernel
theorem d2_maySound_36 : decode c2_maySound 36 = .ok (.iconst 0, 1) := by decide +kernel
theorem d2_maySound_37 : decode c2_maySound 37 = .ok (.ireturn, 1) := by decide +kernel
def t2_maySound (l : Launch) (Po : ri_O) : List ri_S := [i_il 1 2,
  i_con 2 3,
  i_icmp 3 17 (fun x y => ¬ x = y),
  i_al 4 0,
  i_get 5 2 0,
  i_get 6 0 4,
  i_il 7 1,
  i_ald 8 0,
  i_con 9 (-2),
  i_icmp 10 17 (fun x y => x = y),
  i_al 11 0,
  i_get 12 2 0,
  i_get 13 0 4,
  i_il 14 1,
  i_ald 15 0,
  i_il 16 3,
  i_icmp 17 19 (fun x y => ¬ x = y),
  i_con 18 1,
  i_goto 20,
  i_con 20 0,
  i_zret Po 0 0]
set_option maxRecDepth 20000 in
set_option maxHeartbeats 4000000 in
theorem z2_maySound (l : Launch) (Po : ri_O) (p : Program) (e : Env) (s : State) (m : MethodId) (args : Array Value) (below : List Frame) (meth : Method) (c : Code) (D : va_G) (ka : Nat → ClassId) (sa : Nat → Nat) (base : Nat) (X : ri_X p s m args c c2_maySound 4 w2_maySound "ChoraleSearch$StateRules" D ka sa base) (hret : meth.sig.returnType = (some .boolean)) (hlocks : meth.locks = false) (hname : meth.name = "maySound") : ri_clo (ri_W p l e r2_maySound s m args below meth c D ka sa base 4 (MQ below (ri_Qc D ka sa base Po) args s 0 0 (fun q => base ≤ q)) p2_maySound) (t2_maySound l Po) := by
  refine ri_clo_of ?_
  unfold t2_maySound
  exact ⟨s_iload_n X d2_maySound_0 rfl rfl,
    s_iconst X d2_maySound_1 rfl rfl,
    s_icmp_ne X d2_maySound_2 rfl rfl,
    s_aload_n X d2_maySound_5 rfl rfl,
    s_get X (ci := 2) (f := 0) rfl (fun w h => List.mem_cons_of_mem _ (uC_2 w h)) (by decide) (List.mem_cons_of_mem _ mgw_147) d2_maySound_6 rfl,
    s_getN X (ci := 0) (f := 4) rfl (fun w h => List.mem_cons_of_mem _ (uC_0 w h)) (by decide) (List.mem_of_getElem? (i := 9) rfl) d2_maySound_9 rfl,
    s_iload_n X d2_maySound_12 rfl rfl,
    s_iald X rfl d2_maySound_13 rfl,
    s_bipush X d2_maySound_14 rfl rfl,
    s_icmp_eq X d2_maySound_16 rfl rfl,
    s_aload_n X d2_maySound_19 rfl rfl,
    s_get X (ci := 2) (f := 0) rfl (fun w h => List.mem_cons_of_mem _ (uC_2 w h)) (by decide) (List.mem_cons_of_mem _ mgw_147) d2_maySound_20 rfl,
    s_getN X (ci := 0) (f := 4) rfl (fun w h => List.mem_cons_of_mem _ (uC_0 w h)) (by decide) (List.mem_of_getElem? (i := 9) rfl) d2_maySound_23 rfl,
    s_iload_n X d2_maySound_26 rfl rfl,
    s_iald X rfl d2_maySound_27 rfl,
    s_iload_n X d2_maySound_28 rfl rfl,
    s_icmp_ne X d2_maySound_29 rfl rfl,
    s_iconst X d2_maySound_32 rfl rfl,
    s_goto X d2_maySound_33 rfl,
    s_iconst X d2_maySound_36 rfl rfl,
    s_zret X hret hlocks d2_maySound_37, trivial⟩
theorem d2_someBreak3_0 : decode c2_someBreak3 0 = .ok (.iconst 0, 1) := by decide +kernel
theorem d2_someBreak3_1 : decode c2_someBreak3 1 = .ok (.istore_n 1, 1) := by decide +kernel
theorem d2_someBreak3_2 : decode c2_someBreak3 2 = .ok (.iload_n 1, 1) := by decide +kernel
theorem d2_someBreak3_3 : decode c2_someBreak3 3 = .ok (.iconst 3, 1) := by decide +kernel
theorem d2_someBreak3_4 : decode c2_someBreak3 4 = .ok (.if_icmp .ge 51, 3) := by decide +kernel
theorem d2_someBreak3_7 : decode c2_someBreak3 7 = .ok (.aload_n 0, 1) := by decide +kernel
theorem d2_someBreak3_8 : decode c2_someBreak3 8 = .ok (.getfield 15, 3) := by decide +kernel
theorem d2_someBreak3_11 : decode c2_someBreak3 11 = .ok (.iload_n 1, 1) := by decide +kernel
theorem d2_someBreak3_12 : decode c2_someBreak3 12 = .ok (.iconst 1, 1) := by decide +kernel
theorem d2_someBreak3_13 : decode c2_someBreak3 13 = .ok (.iadd, 1) := by decide +kernel
theorem d2_someBreak3_14 : decode c2_someBreak3 14 = .ok (.iaload, 1) := by decide +kernel
theorem d2_someBreak3_15 : decode c2_someBreak3 15 = .ok (.aload_n 0, 1) := by decide +kernel
theorem d2_someBreak3_16 : decode c2_someBreak3 16 = .ok (.getfield 9, 3) := by decide +kernel
theorem d2_someBreak3_19 : decode c2_someBreak3 19 = .ok (.iload_n 1, 1) := by decide +kernel
theorem d2_someBreak3_20 : decode c2_someBreak3 20 = .ok (.iaload, 1) := by decide +kernel
theorem d2_someBreak3_21 : decode c2_someBreak3 21 = .ok (.if_icmp .gt 26, 3) := by decide +kernel
theorem d2_someBreak3_24 : decode c2_someBreak3 24 = .ok (.aload_n 0, 1) := by decide +kernel
theorem d2_someBreak3_25 : decode c2_someBreak3 25 = .ok (.getfield 15, 3) := by decide +kernel
theorem d2_someBreak3_28 : decode c2_someBreak3 28 = .ok (.iload_n 1, 1) := by decide +kernel
theorem d2_someBreak3_29 : decode c2_someBreak3 29 = .ok (.iaload, 1) := by decide +kernel
theorem d2_someBreak3_30 : decode c2_someBreak3 30 = .ok (.aload_n 0, 1) := by decide +kernel
theorem d2_someBreak3_31 : decode c2_someBreak3 31 = .ok (.getfield 9, 3) := by decide +kernel
theorem d2_someBreak3_34 : decode c2_someBreak3 34 = .ok (.iload_n 1, 1) := by decide +kernel
theorem d2_someBreak3_35 : decode c2_someBreak3 35 = .ok (.iconst 1, 1) := by decide +kernel
theorem d2_someBreak3_36 : decode c2_someBreak3 36 = .ok (.iadd, 1) := by decide +kernel
theorem d2_someBreak3_37 : decode c2_someBreak3 37 = .ok (.iaload, 1) := by decide +kernel
theorem d2_someBreak3_38 : decode c2_someBreak3 38 = .ok (.isub, 1) := by decide +kernel
theorem d2_someBreak3_39 : decode c2_someBreak3 39 = .ok (.getstatic 59, 3) := by decide +kernel
theorem d2_someBreak3_42 : decode c2_someBreak3 42 = .ok (.iload_n 1, 1) := by decide +kernel
theorem d2_someBreak3_43 : decode c2_someBreak3 43 = .ok (.iaload, 1) := by decide +kernel
theorem d2_someBreak3_44 : decode c2_someBreak3 44 = .ok (.if_icmp .le 5, 3) := by decide +kernel
theorem d2_someBreak3_47 : decode c2_someBreak3 47 = .ok (.iconst 1, 1) := by decide +kernel
theorem d2_someBreak3_48 : decode c2_someBreak3 48 = .ok (.ireturn, 1) := by decide +kernel
theorem d2_someBreak3_49 : decode c2_someBreak3 49 = .ok (.iinc 1 1, 3) := by decide +kernel
theorem d2_someBreak3_52 : decode c2_someBreak3 52 = .ok (.goto (-50), 3) := by decide +kernel
theorem d2_someBreak3_55 : decode c2_someBreak3 55 = .ok (.iconst 0, 1) := by decide +kernel
theorem d2_someBreak3_56 : decode c2_someBreak3 56 = .ok (.ireturn, 1) := by decide +kernel
def t2_someBreak3 (l : Launch) (Po : ri_O) : List ri_S := [i_con 1 0,
  i_is 2 1,
  i_il 3 1,
  i_con 4 3,
  i_icmp 5 35 (fun x y => y ≤ x),
  i_al 6 0,
  i_get 7 2 3,
  i_il 8 1,
  i_con 9 1,
  i_bin 10 (fun x y => x + y),
  i_ald 11 0,
  i_al 12 0,
  i_get 13 2 2,
  i_il 14 1,
  i_ald 15 0,
  i_icmp 16 31 (fun x y => y < x),
  i_al 17 0,
  i_get 18 2 3,
  i_il 19 1,
  i_ald 20 0,
  i_al 21 0,
  i_get 22 2 2,
  i_il 23 1,
  i_con 24 1,
  i_bin 25 (fun x y => x + y),
  i_ald 26 0,
  i_bin 27 (fun x y => x - y),
  i_gets 28 3,
  i_il 29 1,
  i_ald 30 0,
  i_icmp 31 33 (fun x y => x ≤ y),
  i_con 32 1,
  i_zret Po 0 0,
  i_inc 34 1 1,
  i_goto 2,
  i_con 36 0,
  i_zret Po 0 0]
set_option maxRecDepth 20000 in
set_option maxHeartbeats 4000000 in
theorem z2_someBreak3 (l : Launch) (Po : ri_O) (p : Program) (e : Env) (s : State) (m : MethodId) (args : Array Value) (below : List Frame) (meth : Method) (c : Code) (D : va_G) (ka : Nat → ClassId) (sa : Nat → Nat) (base : Nat) (X : ri_X p s m args c c2_someBreak3 2 w2_someBreak3 "ChoraleSearch$StateRules" D ka sa base) (hret : meth.sig.returnType = (some .boolean)) (hlocks : meth.locks = false) (hname : meth.name = "someBreak3") : ri_clo (ri_W p l e r2_someBreak3 s m args below meth c D ka sa base 2 (MQ below (ri_Qc D ka sa base Po) args s 0 0 (fun q => base ≤ q)) p2_someBreak3) (t2_someBreak3 l Po) := by
  refine ri_clo_of ?_
  unfold t2_someBreak3
  exact ⟨s_iconst X d2_someBreak3_0 rfl rfl,
    s_istore_n X d2_someBreak3_1 rfl (by decide) rfl,
    s_iload_n X d2_someBreak3_2 rfl rfl,
    s_iconst X d2_someBreak3_3 rfl rfl,
    s_icmp_ge X d2_someBreak3_4 rfl rfl,
    s_aload_n X d2_someBreak3_7 rfl rfl,
    s_get X (ci := 2) (f := 3) rfl (fun w h => List.mem_cons_of_mem _ (uC_2 w h)) (by decide) (List.mem_cons_of_mem _ mgw_150) d2_someBreak3_8 rfl,
    s_iload_n X d2_someBreak3_11 rfl rfl,
    s_iconst X d2_someBreak3_12 rfl rfl,
    s_iadd X d2_someBreak3_13 rfl,
    s_iald X rfl d2_someBreak3_14 rfl,
    s_aload_n X d2_someBreak3_15 rfl rfl,
    s_get X (ci := 2) (f := 2) rfl (fun w h => List.mem_cons_of_mem _ (uC_2 w h)) (by decide) (List.mem_cons_of_mem _ mgw_149) d2_someBreak3_16 rfl,
    s_iload_n X d2_someBreak3_19 rfl rfl,
    s_iald X rfl d2_someBreak3_20 rfl,
    s_icmp_gt X d2_someBreak3_21 rfl rfl,
    s_aload_n X d2_someBreak3_24 rfl rfl,
    s_get X (ci := 2) (f := 3) rfl (fun w h => List.mem_cons_of_mem _ (uC_2 w h)) (by decide) (List.mem_cons_of_mem _ mgw_150) d2_someBreak3_25 rfl,
    s_iload_n X d2_someBreak3_28 rfl rfl,
    s_iald X rfl d2_someBreak3_29 rfl,
    s_aload_n X d2_someBreak3_30 rfl rfl,
    s_get X (ci := 2) (f := 2) rfl (fun w h => List.mem_cons_of_mem _ (uC_2 w h)) (by decide) (List.mem_cons_of_mem _ mgw_149) d2_someBreak3_31 rfl,
    s_iload_n X d2_someBreak3_34 rfl rfl,
    s_iconst X d2_someBreak3_35 rfl rfl,
    s_iadd X d2_someBreak3_36 rfl,
    s_iald X rfl d2_someBreak3_37 rfl,
    s_isub X d2_someBreak3_38 rfl,
    s_gets X (q := 3) rfl rfl (List.mem_cons_of_mem _ mgw_459) d2_someBreak3_39 rfl,
    s_iload_n X d2_someBreak3_42 rfl rfl,
    s_iald X rfl d2_someBreak3_43 rfl,
    s_icmp_le X d2_someBreak3_44 rfl rfl,
    s_iconst X d2_someBreak3_47 rfl rfl,
    s_zret X hret hlocks d2_someBreak3_48,
    s_iinc X d2_someBreak3_49 rfl (by decide) rfl,
    s_goto X d2_someBreak3_52 rfl,
    s_iconst X d2_someBreak3_55 rfl rfl,
    s_zret X hret hlocks d2_someBreak3_56, trivial⟩
theorem d2_someBreak4_0 : decode c2_someBreak4 0 = .ok (.aload_n 0, 1) := by decide +kernel
theorem d2_someBreak4_1 : decode c2_someBreak4 1 = .ok (.iconst 0, 1) := by decide +kernel
theorem d2_someBreak4_2 : decode c2_someBreak4 2 = .ok (.invokevirtual 150, 3) := by decide +kernel
theorem d2_someBreak4_5 : decode c2_someBreak4 5 = .ok (.ifCond .ne 33, 3) := by decide +kernel
theorem d2_someBreak4_8 : decode c2_someBreak4 8 = .ok (.aload_n 0, 1) := by decide +kernel
theorem d2_someBreak4_9 : decode c2_someBreak4 9 = .ok (.iconst 1, 1) := by decide +kernel
theorem d2_someBreak4_10 : decode c2_someBreak4 10 = .ok (.invokevirtual 150, 3) := by decide +kernel
theorem d2_someBreak4_13 : decode c2_someBreak4 13 = .ok (.ifCond .ne 25, 3) := by decide +kernel
theorem d2_someBreak4_16 : decode c2_someBreak4 16 = .ok (.aload_n 0, 1) := by decide +kernel
theorem d2_someBreak4_17 : decode c2_someBreak4 17 = .ok (.getfield 25, 3) := by decide +kernel
theorem d2_someBreak4_20 : decode c2_someBreak4 20 = .ok (.iload_n 1, 1) := by decide +kernel
theorem d2_someBreak4_21 : decode c2_someBreak4 21 = .ok (.iconst 3, 1) := by decide +kernel
theorem d2_someBreak4_22 : decode c2_someBreak4 22 = .ok (.invokevirtual 111, 3) := by decide +kernel
theorem d2_someBreak4_25 : decode c2_someBreak4 25 = .ok (.bipush (-2), 2) := by decide +kernel
theorem d2_someBreak4_27 : decode c2_someBreak4 27 = .ok (.if_icmp .eq 15, 3) := by decide +kernel
theorem d2_someBreak4_30 : decode c2_someBreak4 30 = .ok (.aload_n 0, 1) := by decide +kernel
theorem d2_someBreak4_31 : decode c2_someBreak4 31 = .ok (.iconst 3, 1) := by decide +kernel
theorem d2_someBreak4_32 : decode c2_someBreak4 32 = .ok (.invokevirtual 150, 3) := by decide +kernel
theorem d2_someBreak4_35 : decode c2_someBreak4 35 = .ok (.ifCond .eq 7, 3) := by decide +kernel
theorem d2_someBreak4_38 : decode c2_someBreak4 38 = .ok (.iconst 1, 1) := by decide +kernel
theorem d2_someBreak4_39 : decode c2_someBreak4 39 = .ok (.goto 4, 3) := by decide +kernel
theorem d2_someBreak4_42 : decode c2_someBreak4 42 = .ok (.iconst 0, 1) := by decide +kernel
theorem d2_someBreak4_43 : decode c2_someBreak4 43 = .ok (.ireturn, 1) := by decide +kernel
def t2_someBreak4 (l : Launch) (Po : ri_O) : List ri_S := [i_al 1 0,
  i_con 2 0,
  i_callV 3 2 2 (ri_Ev l y2_canMiss w2_canMiss r2_canMiss 0 0) 0 0 0 0,
  i_if 4 19 (fun x => ¬ x = 0),
  i_al 5 0,
  i_con 6 1,
  i_callV 7 2 2 (ri_Ev l y2_canMiss w2_canMiss r2_canMiss 0 0) 0 0 0 0,
  i_if 8 19 (fun x => ¬ x = 0),
  i_al 9 0,
  i_get 10 2 1,
  i_il 11 1,
  i_con 12 3,
  i_callV 13 3 1 (ri_Ev l y1_memberClass w1_memberClass r1_memberClass 0 0) 0 0 0 0,
  i_con 14 (-2),
  i_icmp 15 21 (fun x y => x = y),
  i_al 16 0,
  i_con 17 3,
  i_callV 18 2 2 (ri_Ev l y2_canMiss w2_canMiss r2_canMiss 0 0) 0 0 0 0,
  i_if 19 21 (fun x => x = 0),
  i_con 20 1,
  i_goto 22,
  i_con 22 0,
  i_zret Po 0 0]
set_option maxRecDepth 20000 in
set_option maxHeartbeats 4000000 in
theorem z2_someBreak4 (l : Launch) (Po : ri_O) (p : Program) (e : Env) (s : State) (m : MethodId) (args : Array Value) (below : List Frame) (meth : Method) (c : Code) (D : va_G) (ka : Nat → ClassId) (sa : Nat → Nat) (base : Nat) (X : ri_X p s m args c c2_someBreak4 2 w2_someBreak4 "ChoraleSearch$StateRules" D ka sa base) (hret : meth.sig.returnType = (some .boolean)) (hlocks : meth.locks = false) (hname : meth.name = "someBreak4") : ri_clo (ri_W p l e r2_someBreak4 s m args below meth c D ka sa base 2 (MQ below (ri_Qc D ka sa base Po) args s 0 0 (fun q => base ≤ q)) p2_someBreak4) (t2_someBreak4 l Po) := by
  refine ri_clo_of ?_
  unfold t2_someBreak4
  exact ⟨s_aload_n X d2_someBreak4_0 rfl rfl,
    s_iconst X d2_someBreak4_1 rfl rfl,
    s_callV ri_NW_ok X (na := 1) (ci := 2) rfl ⟨ri_cB X 1 mgw_733 (List.mem_cons_of_mem _ mgw_5) (List.mem_cons_of_mem _ mgw_730) (by decide +kernel) rfl rfl ⟨by decide, by decide⟩, X.2.2.2.2.1 _ (List.mem_cons_of_mem _ mgw_732), X.2.2.2.2.1 _ (List.mem_cons_of_mem _ mgp_65)⟩ d2_someBreak4_2 rfl,
    s_if_ne X d2_someBreak4_5 rfl rfl,
    s_aload_n X d2_someBreak4_8 rfl rfl,
    s_iconst X d2_someBreak4_9 rfl rfl,
    s_callV ri_NW_ok X (na := 1) (ci := 2) rfl ⟨ri_cB X 1 mgw_733 (List.mem_cons_of_mem _ mgw_5) (List.mem_cons_of_mem _ mgw_730) (by decide +kernel) rfl rfl ⟨by decide, by decide⟩, X.2.2.2.2.1 _ (List.mem_cons_of_mem _ mgw_732), X.2.2.2.2.1 _ (List.mem_cons_of_mem _ mgp_65)⟩ d2_someBreak4_10 rfl,
    s_if_ne X d2_someBreak4_13 rfl rfl,
    s_aload_n X d2_someBreak4_16 rfl rfl,
    s_get X (ci := 2) (f := 1) rfl (fun w h => List.mem_cons_of_mem _ (uC_2 w h)) (by decide) (List.mem_cons_of_mem _ mgw_148) d2_someBreak4_17 rfl,
    s_iload_n X d2_someBreak4_20 rfl rfl,
    s_iconst X d2_someBreak4_21 rfl rfl,
    s_callVN ri_NW_ok X (na := 2) (ci := 1) rfl ⟨ri_cN X 2 mgw_491 (List.mem_cons_of_mem _ mgw_3) (List.mem_of_getElem? (i := 57) rfl) (by decide +kernel) rfl rfl ⟨by decide, by decide⟩, X.2.2.2.2.1 _ (List.mem_cons_of_mem _ mgw_490), X.2.2.2.2.1 _ (List.mem_cons_of_mem _ mgp_22)⟩ d2_someBreak4_22 rfl,
    s_bipush X d2_someBreak4_25 rfl rfl,
    s_icmp_eq X d2_someBreak4_27 rfl rfl,
    s_aload_n X d2_someBreak4_30 rfl rfl,
    s_iconst X d2_someBreak4_31 rfl rfl,
    s_callV ri_NW_ok X (na := 1) (ci := 2) rfl ⟨ri_cB X 1 mgw_733 (List.mem_cons_of_mem _ mgw_5) (List.mem_cons_of_mem _ mgw_730) (by decide +kernel) rfl rfl ⟨by decide, by decide⟩, X.2.2.2.2.1 _ (List.mem_cons_of_mem _ mgw_732), X.2.2.2.2.1 _ (List.mem_cons_of_mem _ mgp_65)⟩ d2_someBreak4_32 rfl,
    s_if_eq X d2_someBreak4_35 rfl rfl,
    s_iconst X d2_someBreak4_38 rfl rfl,
    s_goto X d2_someBreak4_39 rfl,
    s_iconst X d2_someBreak4_42 rfl rfl,
    s_zret X hret hlocks d2_someBreak4_43, trivial⟩
theorem d2_canMiss_0 : decode c2_canMiss 0 = .ok (.iconst 0, 1) := by decide +kernel
theorem d2_canMiss_1 : decode c2_canMiss 1 = .ok (.istore_n 2, 1) := by decide +kernel
theorem d2_canMiss_2 : decode c2_canMiss 2 = .ok (.iload_n 2, 1) := by decide +kernel
theorem d2_canMiss_3 : decode c2_canMiss 3 = .ok (.iconst 4, 1) := by decide +kernel
theorem d2_canMiss_4 : decode c2_canMiss 4 = .ok (.if_icmp .ge 23, 3) := by decide +kernel
theorem d2_canMiss_7 : decode c2_canMiss 7 = .ok (.aload_n 0, 1) := by decide +kernel
theorem d2_canMiss_8 : decode c2_canMiss 8 = .ok (.getfield 18, 3) := by decide +kernel
theorem d2_canMiss_11 : decode c2_canMiss 11 = .ok (.iload_n 2, 1) := by decide +kernel
theorem d2_canMiss_12 : decode c2_canMiss 12 = .ok (.iaload, 1) := by decide +kernel
theorem d2_canMiss_13 : decode c2_canMiss 13 = .ok (.iconst 1, 1) := by decide +kernel
theorem d2_canMiss_14 : decode c2_canMiss 14 = .ok (.iload_n 1, 1) := by decide +kernel
theorem d2_canMiss_15 : decode c2_canMiss 15 = .ok (.ishl, 1) := by decide +kernel
theorem d2_canMiss_16 : decode c2_canMiss 16 = .ok (.if_icmp .ne 5, 3) := by decide +kernel
theorem d2_canMiss_19 : decode c2_canMiss 19 = .ok (.iconst 0, 1) := by decide +kernel
theorem d2_canMiss_20 : decode c2_canMiss 20 = .ok (.ireturn, 1) := by decide +kernel
theorem d2_canMiss_21 : decode c2_canMiss 21 = .ok (.iinc 2 1, 3) := by decide +kernel
theorem d2_canMiss_24 : decode c2_canMiss 24 = .ok (.goto (-22), 3) := by decide +kernel
theorem d2_canMiss_27 : decode c2_canMiss 27 = .ok (.iconst 1, 1) := by decide +kernel
theorem d2_canMiss_28 : decode c2_canMiss 28 = .ok (.ireturn, 1) := by decide +kernel
def t2_canMiss (l : Launch) (Po : ri_O) : List ri_S := [i_con 1 0,
  i_is 2 2,
  i_il 3 2,
  i_con 4 4,
  i_icmp 5 17 (fun x y => y ≤ x),
  i_al 6 0,
  i_get 7 2 4,
  i_il 8 2,
  i_ald 9 0,
  i_con 10 1,
  i_il 11 1,
  i_bin 12 (fun x y => x <<< (y &&& 31)),
  i_icmp 13 15 (fun x y => ¬ x = y),
  i_con 14 0,
  i_zret Po 0 0,
  i_inc 16 2 1,
  i_goto 2,
  i_con 18 1,
  i_zret Po 0 0]
set_option maxRecDepth 20000 in
set_option maxHeartbeats 4000000 in
theorem z2_canMiss (l : Launch) (Po : ri_O) (p : Program) (e : Env) (s : State) (m : MethodId) (args : Array Value) (below : List Frame) (meth : Method) (c : Code) (D : va_G) (ka : Nat → ClassId) (sa : Nat → Nat) (base : Nat) (X : ri_X p s m args c c2_canMiss 3 w2_canMiss "ChoraleSearch$StateRules" D ka sa base) (hret : meth.sig.returnType = (some .boolean)) (hlocks : meth.locks = false) (hname : meth.name = "canMiss") : ri_clo (ri_W p l e r2_canMiss s m args below meth c D ka sa base 3 (MQ below (ri_Qc D ka sa base Po) args s 0 0 (fun q => base ≤ q)) p2_canMiss) (t2_canMiss l Po) := by
  refine ri_clo_of ?_
  unfold t2_canMiss
  exact ⟨s_iconst X d2_canMiss_0 rfl rfl,
    s_istore_n X d2_canMiss_1 rfl (by decide) rfl,
    s_iload_n X d2_canMiss_2 rfl rfl,
    s_iconst X d2_canMiss_3 rfl rfl,
    s_icmp_ge X d2_canMiss_4 rfl rfl,
    s_aload_n X d2_canMiss_7 rfl rfl,
    s_get X (ci := 2) (f := 4) rfl (fun w h => List.mem_cons_of_mem _ (uC_2 w h)) (by decide) (List.mem_cons_of_mem _ mgw_151) d2_canMiss_8 rfl,
    s_iload_n X d2_canMiss_11 rfl rfl,
    s_iald X rfl d2_canMiss_12 rfl,
    s_iconst X d2_canMiss_13 rfl rfl,
    s_iload_n X d2_canMiss_14 rfl rfl,
    s_ishl X d2_canMiss_15 rfl,
    s_icmp_ne X d2_canMiss_16 rfl rfl,
    s_iconst X d2_canMiss_19 rfl rfl,
    s_zret X hret hlocks d2_canMiss_20,
    s_iinc X d2_canMiss_21 rfl (by decide) rfl,
    s_goto X d2_canMiss_24 rfl,
    s_iconst X d2_canMiss_27 rfl rfl,
    s_zret X hret hlocks d2_canMiss_28, trivial⟩
theorem d2_someBreak5_0 : decode c2_someBreak5 0 = .ok (.aload_n 0, 1) := by decide +kernel
theorem d2_someBreak5_1 : decode c2_someBreak5 1 = .ok (.iconst 3, 1) := by decide +kernel
theorem d2_someBreak5_2 : decode c2_someBreak5 2 = .ok (.invokevirtual 153, 3) := by decide +kernel
theorem d2_someBreak5_5 : decode c2_someBreak5 5 = .ok (.ifCond .eq 5, 3) := by decide +kernel
theorem d2_someBreak5_8 : decode c2_someBreak5 8 = .ok (.iconst 1, 1) := by decide +kernel
theorem d2_someBreak5_9 : decode c2_someBreak5 9 = .ok (.ireturn, 1) := by decide +kernel
theorem d2_someBreak5_10 : decode c2_someBreak5 10 = .ok (.aload_n 0, 1) := by decide +kernel
theorem d2_someBreak5_11 : decode c2_someBreak5 11 = .ok (.iload_n 1, 1) := by decide +kernel
theorem d2_someBreak5_12 : decode c2_someBreak5 12 = .ok (.aload_n 0, 1) := by decide +kernel
theorem d2_someBreak5_13 : decode c2_someBreak5 13 = .ok (.getfield 25, 3) := by decide +kernel
theorem d2_someBreak5_16 : decode c2_someBreak5 16 = .ok (.getfield 120, 3) := by decide +kernel
theorem d2_someBreak5_19 : decode c2_someBreak5 19 = .ok (.invokevirtual 143, 3) := by decide +kernel
theorem d2_someBreak5_22 : decode c2_someBreak5 22 = .ok (.istore_n 2, 1) := by decide +kernel
theorem d2_someBreak5_23 : decode c2_someBreak5 23 = .ok (.aload_n 0, 1) := by decide +kernel
theorem d2_someBreak5_24 : decode c2_someBreak5 24 = .ok (.getfield 25, 3) := by decide +kernel
theorem d2_someBreak5_27 : decode c2_someBreak5 27 = .ok (.iload_n 1, 1) := by decide +kernel
theorem d2_someBreak5_28 : decode c2_someBreak5 28 = .ok (.invokevirtual 117, 3) := by decide +kernel
theorem d2_someBreak5_31 : decode c2_someBreak5 31 = .ok (.ifCond .eq 21, 3) := by decide +kernel
theorem d2_someBreak5_34 : decode c2_someBreak5 34 = .ok (.iload_n 2, 1) := by decide +kernel
theorem d2_someBreak5_35 : decode c2_someBreak5 35 = .ok (.bipush (-2), 2) := by decide +kernel
theorem d2_someBreak5_37 : decode c2_someBreak5 37 = .ok (.if_icmp .eq 15, 3) := by decide +kernel
theorem d2_someBreak5_40 : decode c2_someBreak5 40 = .ok (.aload_n 0, 1) := by decide +kernel
theorem d2_someBreak5_41 : decode c2_someBreak5 41 = .ok (.iload_n 2, 1) := by decide +kernel
theorem d2_someBreak5_42 : decode c2_someBreak5 42 = .ok (.invokevirtual 153, 3) := by decide +kernel
theorem d2_someBreak5_45 : decode c2_someBreak5 45 = .ok (.ifCond .eq 7, 3) := by decide +kernel
theorem d2_someBreak5_48 : decode c2_someBreak5 48 = .ok (.iconst 1, 1) := by decide +kernel
theorem d2_someBreak5_49 : decode c2_someBreak5 49 = .ok (.goto 4, 3) := by decide +kernel
theorem d2_someBreak5_52 : decode c2_someBreak5 52 = .ok (.iconst 0, 1) := by decide +kernel
theorem d2_someBreak5_53 : decode c2_someBreak5 53 = .ok (.ireturn, 1) := by decide +kernel
def t2_someBreak5 (l : Launch) (Po : ri_O) : List ri_S := [i_al 1 0,
  i_con 2 3,
  i_callV 3 2 2 (ri_Ev l y2_canDouble w2_canDouble r2_canDouble 0 0) 0 0 0 0,
  i_if 4 6 (fun x => x = 0),
  i_con 5 1,
  i_zret Po 0 0,
  i_al 7 0,
  i_il 8 1,
  i_al 9 0,
  i_get 10 2 1,
  i_get 11 1 2,
  i_callV 12 3 2 (ri_Ev l y2_memberAt w2_memberAt r2_memberAt 0 0) 0 0 0 0,
  i_is 13 2,
  i_al 14 0,
  i_get 15 2 1,
  i_il 16 1,
  i_callV 17 2 1 (ri_Ev l y1_guardsLeading w1_guardsLeading r1_guardsLeading 0 0) 0 0 0 0,
  i_if 18 27 (fun x => x = 0),
  i_il 19 2,
  i_con 20 (-2),
  i_icmp 21 27 (fun x y => x = y),
  i_al 22 0,
  i_il 23 2,
  i_callV 24 2 2 (ri_Ev l y2_canDouble w2_canDouble r2_canDouble 0 0) 0 0 0 0,
  i_if 25 27 (fun x => x = 0),
  i_con 26 1,
  i_goto 28,
  i_con 28 0,
  i_zret Po 0 0]
set_option maxRecDepth 20000 in
set_option maxHeartbeats 4000000 in
theorem z2_someBreak5 (l : Launch) (Po : ri_O) (p : Program) (e : Env) (s : State) (m : MethodId) (args : Array Value) (below : List Frame) (meth : Method) (c : Code) (D : va_G) (ka : Nat → ClassId) (sa : Nat → Nat) (base : Nat) (X : ri_X p s m args c c2_someBreak5 3 w2_someBreak5 "ChoraleSearch$StateRules" D ka sa base) (hret : meth.sig.returnType = (some .boolean)) (hlocks : meth.locks = false) (hname : meth.name = "someBreak5") : ri_clo (ri_W p l e r2_someBreak5 s m args below meth c D ka sa base 3 (MQ below (ri_Qc D ka sa base Po) args s 0 0 (fun q => base ≤ q)) p2_someBreak5) (t2_someBreak5 l Po) := by
  refine ri_clo_of ?_
  unfold t2_someBreak5
  exact ⟨s_aload_n X d2_someBreak5_0 rfl rfl,
    s_iconst X d2_someBreak5_1 rfl rfl,
    s_callV ri_NW_ok X (na := 1) (ci := 2) rfl ⟨ri_cB X 1 mgw_741 (List.mem_cons_of_mem _ mgw_5) (List.mem_cons_of_mem _ mgw_738) (by decide +kernel) rfl rfl ⟨by decide, by decide⟩, X.2.2.2.2.1 _ (List.mem_cons_of_mem _ mgw_740), X.2.2.2.2.1 _ (List.mem_cons_of_mem _ mgp_67)⟩ d2_someBreak5_2 rfl,
    s_if_eq X d2_someBreak5_5 rfl rfl,
    s_iconst X d2_someBreak5_8 rfl rfl,
    s_zret X hret hlocks d2_someBreak5_9,
    s_aload_n X d2_someBreak5_10 rfl rfl,
    s_iload_n X d2_someBreak5_11 rfl rfl,
    s_aload_n X d2_someBreak5_12 rfl rfl,
    s_get X (ci := 2) (f := 1) rfl (fun w h => List.mem_cons_of_mem _ (uC_2 w h)) (by decide) (List.mem_cons_of_mem _ mgw_148) d2_someBreak5_13 rfl,
    s_getN X (ci := 1) (f := 2) rfl (fun w h => List.mem_cons_of_mem _ (uC_1 w h)) (by decide) (List.mem_of_getElem? (i := 20) rfl) d2_someBreak5_16 rfl,
    s_callV ri_NW_ok X (na := 2) (ci := 2) rfl ⟨ri_cB X 2 mgw_717 (List.mem_cons_of_mem _ mgw_5) (List.mem_cons_of_mem _ mgw_714) (by decide +kernel) rfl rfl ⟨by decide, by decide⟩, X.2.2.2.2.1 _ (List.mem_cons_of_mem _ mgw_716), X.2.2.2.2.1 _ (List.mem_cons_of_mem _ mgp_61)⟩ d2_someBreak5_19 rfl,
    s_istore_n X d2_someBreak5_22 rfl (by decide) rfl,
    s_aload_n X d2_someBreak5_23 rfl rfl,
    s_get X (ci := 2) (f := 1) rfl (fun w h => List.mem_cons_of_mem _ (uC_2 w h)) (by decide) (List.mem_cons_of_mem _ mgw_148) d2_someBreak5_24 rfl,
    s_iload_n X d2_someBreak5_27 rfl rfl,
    s_callVN ri_NW_ok X (na := 1) (ci := 1) rfl ⟨ri_cN X 1 mgw_498 (List.mem_cons_of_mem _ mgw_3) (List.mem_of_getElem? (i := 59) rfl) (by decide +kernel) rfl rfl ⟨by decide, by decide⟩, X.2.2.2.2.1 _ (List.mem_cons_of_mem _ mgw_497), X.2.2.2.2.1 _ (List.mem_cons_of_mem _ mgp_23)⟩ d2_someBreak5_28 rfl,
    s_if_eq X d2_someBreak5_31 rfl rfl,
    s_iload_n X d2_someBreak5_34 rfl rfl,
    s_bipush X d2_someBreak5_35 rfl rfl,
    s_icmp_eq X d2_someBreak5_37 rfl rfl,
    s_aload_n X d2_someBreak5_40 rfl rfl,
    s_iload_n X d2_someBreak5_41 rfl rfl,
    s_callV ri_NW_ok X (na := 1) (ci := 2) rfl ⟨ri_cB X 1 mgw_741 (List.mem_cons_of_mem _ mgw_5) (List.mem_cons_of_mem _ mgw_738) (by decide +kernel) rfl rfl ⟨by decide, by decide⟩, X.2.2.2.2.1 _ (List.mem_cons_of_mem _ mgw_740), X.2.2.2.2.1 _ (List.mem_cons_of_mem _ mgp_67)⟩ d2_someBreak5_42 rfl,
    s_if_eq X d2_someBreak5_45 rfl rfl,
    s_iconst X d2_someBreak5_48 rfl rfl,
    s_goto X d2_someBreak5_49 rfl,
    s_iconst X d2_someBreak5_52 rfl rfl,
    s_zret X hret hlocks d2_someBreak5_53, trivial⟩
theorem d2_canDouble_0 : decode c2_canDouble 0 = .ok (.iconst 0, 1) := by decide +kernel
theorem d2_canDouble_1 : decode c2_canDouble 1 = .ok (.istore_n 2, 1) := by decide +kernel
theorem d2_canDouble_2 : decode c2_canDouble 2 = .ok (.iconst 0, 1) := by decide +kernel
theorem d2_canDouble_3 : decode c2_canDouble 3 = .ok (.istore_n 3, 1) := by decide +kernel
theorem d2_canDouble_4 : decode c2_canDouble 4 = .ok (.iload_n 3, 1) := by decide +kernel
theorem d2_canDouble_5 : decode c2_canDouble 5 = .ok (.iconst 4, 1) := by decide +kernel
theorem d2_canDouble_6 : decode c2_canDouble 6 = .ok (.if_icmp .ge 22, 3) := by decide +kernel
theorem d2_canDouble_9 : decode c2_canDouble 9 = .ok (.iload_n 2, 1) := by decide +kernel
theorem d2_canDouble_10 : decode c2_canDouble 10 = .ok (.aload_n 0, 1) := by decide +kernel
theorem d2_canDouble_11 : decode c2_canDouble 11 = .ok (.getfield 18, 3) := by decide +kernel
theorem d2_canDouble_14 : decode c2_canDouble 14 = .ok (.iload_n 3, 1) := by decide +kernel
theorem d2_canDouble_15 : decode c2_canDouble 15 = .ok (.iaload, 1) := by decide +kernel
theorem d2_canDouble_16 : decode c2_canDouble 16 = .ok (.iload_n 1, 1) := by decide +kernel
theorem d2_canDouble_17 : decode c2_canDouble 17 = .ok (.ishr, 1) := by decide +kernel
theorem d2_canDouble_18 : decode c2_canDouble 18 = .ok (.iconst 1, 1) := by decide +kernel
theorem d2_canDouble_19 : decode c2_canDouble 19 = .ok (.iand, 1) := by decide +kernel
theorem d2_canDouble_20 : decode c2_canDouble 20 = .ok (.iadd, 1) := by decide +kernel
theorem d2_canDouble_21 : decode c2_canDouble 21 = .ok (.istore_n 2, 1) := by decide +kernel
theorem d2_canDouble_22 : decode c2_canDouble 22 = .ok (.iinc 3 1, 3) := by decide +kernel
theorem d2_canDouble_25 : decode c2_canDouble 25 = .ok (.goto (-21), 3) := by decide +kernel
theorem d2_canDouble_28 : decode c2_canDouble 28 = .ok (.iload_n 2, 1) := by decide +kernel
theorem d2_canDouble_29 : decode c2_canDouble 29 = .ok (.iconst 2, 1) := by decide +kernel
theorem d2_canDouble_30 : decode c2_canDouble 30 = .ok (.if_icmp .lt 7, 3) := by decide +kernel
theorem d2_canDouble_33 : decode c2_canDouble 33 = .ok (.iconst 1, 1) := by decide +kernel
theorem d2_canDouble_34 : decode c2_canDouble 34 = .ok (.goto 4, 3) := by decide +kernel
theorem d2_canDouble_37 : decode c2_canDouble 37 = .ok (.iconst 0, 1) := by decide +kernel
theorem d2_canDouble_38 : decode c2_canDouble 38 = .ok (.ireturn, 1) := by decide +kernel
def t2_canDouble (l : Launch) (Po : ri_O) : List ri_S := [i_con 1 0,
  i_is 2 2,
  i_con 3 0,
  i_is 4 3,
  i_il 5 3,
  i_con 6 4,
  i_icmp 7 20 (fun x y => y ≤ x),
  i_il 8 2,
  i_al 9 0,
  i_get 10 2 4,
  i_il 11 3,
  i_ald 12 0,
  i_il 13 1,
  i_bin 14 (fun x y => x >>> (y &&& 31)),
  i_con 15 1,
  i_bin 16 (fun x y => x &&& y),
  i_bin 17 (fun x y => x + y),
  i_is 18 2,
  i_inc 19 3 1,
  i_goto 4,
  i_il 21 2,
  i_con 22 2,
  i_icmp 23 25 (fun x y => x < y),
  i_con 24 1,
  i_goto 26,
  i_con 26 0,
  i_zret Po 0 0]
set_option maxRecDepth 20000 in
set_option maxHeartbeats 4000000 in
theorem z2_canDouble (l : Launch) (Po : ri_O) (p : Program) (e : Env) (s : State) (m : MethodId) (args : Array Value) (below : List Frame) (meth : Method) (c : Code) (D : va_G) (ka : Nat → ClassId) (sa : Nat → Nat) (base : Nat) (X : ri_X p s m args c c2_canDouble 4 w2_canDouble "ChoraleSearch$StateRules" D ka sa base) (hret : meth.sig.returnType = (some .boolean)) (hlocks : meth.locks = false) (hname : meth.name = "canDouble") : ri_clo (ri_W p l e r2_canDouble s m args below meth c D ka sa base 4 (MQ below (ri_Qc D ka sa base Po) args s 0 0 (fun q => base ≤ q)) p2_canDouble) (t2_canDouble l Po) := by
  refine ri_clo_of ?_
  unfold t2_canDouble
  exact ⟨s_iconst X d2_canDouble_0 rfl rfl,
    s_istore_n X d2_canDouble_1 rfl (by decide) rfl,
    s_iconst X d2_canDouble_2 rfl rfl,
    s_istore_n X d2_canDouble_3 rfl (by decide) rfl,
    s_iload_n X d2_canDouble_4 rfl rfl,
    s_iconst X d2_canDouble_5 rfl rfl,
    s_icmp_ge X d2_canDouble_6 rfl rfl,
    s_iload_n X d2_canDouble_9 rfl rfl,
    s_aload_n X d2_canDouble_10 rfl rfl,
    s_get X (ci := 2) (f := 4) rfl (fun w h => List.mem_cons_of_mem _ (uC_2 w h)) (by decide) (List.mem_cons_of_mem _ mgw_151) d2_canDouble_11 rfl,
    s_iload_n X d2_canDouble_14 rfl rfl,
    s_iald X rfl d2_canDouble_15 rfl,
    s_iload_n X d2_canDouble_16 rfl rfl,
    s_ishr X d2_canDouble_17 rfl,
    s_iconst X d2_canDouble_18 rfl rfl,
    s_iand X d2_canDouble_19 rfl,
    s_iadd X d2_canDouble_20 rfl,
    s_istore_n X d2_canDouble_21 rfl (by decide) rfl,
    s_iinc X d2_canDouble_22 rfl (by decide) rfl,
    s_goto X d2_canDouble_25 rfl,
    s_iload_n X d2_canDouble_28 rfl rfl,
    s_iconst X d2_canDouble_29 rfl rfl,
    s_icmp_lt X d2_canDouble_30 rfl rfl,
    s_iconst X d2_canDouble_33 rfl rfl,
    s_goto X d2_canDouble_34 rfl,
    s_iconst X d2_canDouble_37 rfl rfl,
    s_zret X hret hlocks d2_canDouble_38, trivial⟩
theorem d2_someBreak6_0 : decode c2_someBreak6 0 = .ok (.aload_n 0, 1) := by decide +kernel
theorem d2_someBreak6_1 : decode c2_someBreak6 1 = .ok (.getfield 21, 3) := by decide +kernel
theorem d2_someBreak6_4 : decode c2_someBreak6 4 = .ok (.getfield 101, 3) := by decide +kernel
theorem d2_someBreak6_7 : decode c2_someBreak6 7 = .ok (.iload_n 1, 1) := by decide +kernel
theorem d2_someBreak6_8 : decode c2_someBreak6 8 = .ok (.baload, 1) := by decide +kernel
theorem d2_someBreak6_9 : decode c2_someBreak6 9 = .ok (.ifCond .eq 14, 3) := by decide +kernel
theorem d2_someBreak6_12 : decode c2_someBreak6 12 = .ok (.bipush 49, 2) := by decide +kernel
theorem d2_someBreak6_14 : decode c2_someBreak6 14 = .ok (.iload_n 2, 1) := by decide +kernel
theorem d2_someBreak6_15 : decode c2_someBreak6 15 = .ok (.ishr, 1) := by decide +kernel
theorem d2_someBreak6_16 : decode c2_someBreak6 16 = .ok (.iconst 1, 1) := by decide +kernel
theorem d2_someBreak6_17 : decode c2_someBreak6 17 = .ok (.iand, 1) := by decide +kernel
theorem d2_someBreak6_18 : decode c2_someBreak6 18 = .ok (.ifCond .ne 5, 3) := by decide +kernel
theorem d2_someBreak6_21 : decode c2_someBreak6 21 = .ok (.iconst 1, 1) := by decide +kernel
theorem d2_someBreak6_22 : decode c2_someBreak6 22 = .ok (.ireturn, 1) := by decide +kernel
theorem d2_someBreak6_23 : decode c2_someBreak6 23 = .ok (.aload_n 0, 1) := by decide +kernel
theorem d2_someBreak6_24 : decode c2_someBreak6 24 = .ok (.getfield 21, 3) := by decide +kernel
theorem d2_someBreak6_27 : decode c2_someBreak6 27 = .ok (.iload_n 1, 1) := by decide +kernel
theorem d2_someBreak6_28 : decode c2_someBreak6 28 = .ok (.invokevirtual 97, 3) := by decide +kernel
theorem d2_someBreak6_31 : decode c2_someBreak6 31 = .ok (.ifCond .eq 21, 3) := by decide +kernel
theorem d2_someBreak6_34 : decode c2_someBreak6 34 = .ok (.iload_n 2, 1) := by decide +kernel
theorem d2_someBreak6_35 : decode c2_someBreak6 35 = .ok (.ifCond .ne 13, 3) := by decide +kernel
theorem d2_someBreak6_38 : decode c2_someBreak6 38 = .ok (.aload_n 0, 1) := by decide +kernel
theorem d2_someBreak6_39 : decode c2_someBreak6 39 = .ok (.getfield 18, 3) := by decide +kernel
theorem d2_someBreak6_42 : decode c2_someBreak6 42 = .ok (.iconst 3, 1) := by decide +kernel
theorem d2_someBreak6_43 : decode c2_someBreak6 43 = .ok (.iaload, 1) := by decide +kernel
theorem d2_someBreak6_44 : decode c2_someBreak6 44 = .ok (.iconst 1, 1) := by decide +kernel
theorem d2_someBreak6_45 : decode c2_someBreak6 45 = .ok (.if_icmp .eq 7, 3) := by decide +kernel
theorem d2_someBreak6_48 : decode c2_someBreak6 48 = .ok (.iconst 1, 1) := by decide +kernel
theorem d2_someBreak6_49 : decode c2_someBreak6 49 = .ok (.goto 4, 3) := by decide +kernel
theorem d2_someBreak6_52 : decode c2_someBreak6 52 = .ok (.iconst 0, 1) := by decide +kernel
theorem d2_someBreak6_53 : decode c2_someBreak6 53 = .ok (.ireturn, 1) := by decide +kernel
def t2_someBreak6 (l : Launch) (Po : ri_O) : List ri_S := [i_al 1 0,
  i_get 2 2 0,
  i_get 3 0 5,
  i_il 4 1,
  i_ald 5 1,
  i_if 6 14 (fun x => x = 0),
  i_con 7 49,
  i_il 8 2,
  i_bin 9 (fun x y => x >>> (y &&& 31)),
  i_con 10 1,
  i_bin 11 (fun x y => x &&& y),
  i_if 12 14 (fun x => ¬ x = 0),
  i_con 13 1,
  i_zret Po 0 0,
  i_al 15 0,
  i_get 16 2 0,
  i_il 17 1,
  i_callV 18 2 0 (ri_Ev l y0_isLast w0_isLast r0_isLast 0 0) 0 0 0 0,
  i_if 19 29 (fun x => x = 0),
  i_il 20 2,
  i_if 21 27 (fun x => ¬ x = 0),
  i_al 22 0,
  i_get 23 2 4,
  i_con 24 3,
  i_ald 25 0,
  i_con 26 1,
  i_icmp 27 29 (fun x y => x = y),
  i_con 28 1,
  i_goto 30,
  i_con 30 0,
  i_zret Po 0 0]
set_option maxRecDepth 20000 in
set_option maxHeartbeats 4000000 in
theorem z2_someBreak6 (l : Launch) (Po : ri_O) (p : Program) (e : Env) (s : State) (m : MethodId) (args : Array Value) (below : List Frame) (meth : Method) (c : Code) (D : va_G) (ka : Nat → ClassId) (sa : Nat → Nat) (base : Nat) (X : ri_X p s m args c c2_someBreak6 3 w2_someBreak6 "ChoraleSearch$StateRules" D ka sa base) (hret : meth.sig.returnType = (some .boolean)) (hlocks : meth.locks = false) (hname : meth.name = "someBreak6") : ri_clo (ri_W p l e r2_someBreak6 s m args below meth c D ka sa base 3 (MQ below (ri_Qc D ka sa base Po) args s 0 0 (fun q => base ≤ q)) p2_someBreak6) (t2_someBreak6 l Po) := by
  refine ri_clo_of ?_
  unfold t2_someBreak6
  exact ⟨s_aload_n X d2_someBreak6_0 rfl rfl,
    s_get X (ci := 2) (f := 0) rfl (fun w h => List.mem_cons_of_mem _ (uC_2 w h)) (by decide) (List.mem_cons_of_mem _ mgw_147) d2_someBreak6_1 rfl,
    s_getN X (ci := 0) (f := 5) rfl (fun w h => List.mem_cons_of_mem _ (uC_0 w h)) (by decide) (List.mem_of_getElem? (i := 11) rfl) d2_someBreak6_4 rfl,
    s_iload_n X d2_someBreak6_7 rfl rfl,
    s_zald X rfl d2_someBreak6_8 rfl,
    s_if_eq X d2_someBreak6_9 rfl rfl,
    s_bipush X d2_someBreak6_12 rfl rfl,
    s_iload_n X d2_someBreak6_14 rfl rfl,
    s_ishr X d2_someBreak6_15 rfl,
    s_iconst X d2_someBreak6_16 rfl rfl,
    s_iand X d2_someBreak6_17 rfl,
    s_if_ne X d2_someBreak6_18 rfl rfl,
    s_iconst X d2_someBreak6_21 rfl rfl,
    s_zret X hret hlocks d2_someBreak6_22,
    s_aload_n X d2_someBreak6_23 rfl rfl,
    s_get X (ci := 2) (f := 0) rfl (fun w h => List.mem_cons_of_mem _ (uC_2 w h)) (by decide) (List.mem_cons_of_mem _ mgw_147) d2_someBreak6_24 rfl,
    s_iload_n X d2_someBreak6_27 rfl rfl,
    s_callVN ri_NW_ok X (na := 1) (ci := 0) rfl ⟨ri_cN X 1 mgw_453 (List.mem_cons_of_mem _ mgw_2) (List.mem_of_getElem? (i := 52) rfl) (by decide +kernel) rfl rfl ⟨by decide, by decide⟩, X.2.2.2.2.1 _ (List.mem_cons_of_mem _ mgw_452), X.2.2.2.2.1 _ (List.mem_cons_of_mem _ mgp_15)⟩ d2_someBreak6_28 rfl,
    s_if_eq X d2_someBreak6_31 rfl rfl,
    s_iload_n X d2_someBreak6_34 rfl rfl,
    s_if_ne X d2_someBreak6_35 rfl rfl,
    s_aload_n X d2_someBreak6_38 rfl rfl,
    s_get X (ci := 2) (f := 4) rfl (fun w h => List.mem_cons_of_mem _ (uC_2 w h)) (by decide) (List.mem_cons_of_mem _ mgw_151) d2_someBreak6_39 rfl,
    s_iconst X d2_someBreak6_42 rfl rfl,
    s_iald X rfl d2_someBreak6_43 rfl,
    s_iconst X d2_someBreak6_44 rfl rfl,
    s_icmp_eq X d2_someBreak6_45 rfl rfl,
    s_iconst X d2_someBreak6_48 rfl rfl,
    s_goto X d2_someBreak6_49 rfl,
    s_iconst X d2_someBreak6_52 rfl rfl,
    s_zret X hret hlocks d2_someBreak6_53, trivial⟩
