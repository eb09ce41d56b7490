theorem d5_init_0 : decode c5_init 0 = .ok (.aload_n 0, 1) := by decide +kernel
theorem d5_init_1 : decode c5_init 1 = .ok (.invokespecial 3, 3) := by decide +kernel
theorem d5_init_4 : decode c5_init 4 = .ok (.aload_n 0, 1) := by decide +kernel
theorem d5_init_5 : decode c5_init 5 = .ok (.sipush 400, 3) := by decide +kernel
theorem d5_init_8 : decode c5_init 8 = .ok (.newarray .int, 2) := by decide +kernel
theorem d5_init_10 : decode c5_init 10 = .ok (.putfield 9, 3) := by decide +kernel
theorem d5_init_13 : decode c5_init 13 = .ok (.aload_n 0, 1) := by decide +kernel
theorem d5_init_14 : decode c5_init 14 = .ok (.sipush 400, 3) := by decide +kernel
theorem d5_init_17 : decode c5_init 17 = .ok (.newarray .int, 2) := by decide +kernel
theorem d5_init_19 : decode c5_init 19 = .ok (.putfield 15, 3) := by decide +kernel
theorem d5_init_22 : decode c5_init 22 = .ok (.return_, 1) := by decide +kernel
def t5_init (l : Launch) (Po : ri_O) : List ri_S := [i_al 1 0,
  i_oi 2 1 20,
  i_al 3 0,
  i_con 4 400,
  i_nwa 5 0 2 800,
  i_put 6 5 1 ri_isR,
  i_al 7 0,
  i_con 8 400,
  i_nwa 9 0 2 800,
  i_put 10 5 2 ri_isR,
  i_vret Po 2 800]
set_option maxRecDepth 20000 in
set_option maxHeartbeats 4000000 in
theorem z5_init (l : Launch) (Po : ri_O) (p : Program) (e : Env) (s : State) (m : MethodId) (args : Array Value) (below : List Frame) (meth : Method) (c : Code) (D : va_G) (ka : Nat → ClassId) (sa : Nat → Nat) (base : Nat) (X : ri_X p s m args c c5_init 1 w5_init "ChoraleSearch$Layer" D ka sa base) (hret : meth.sig.returnType = none) (hlocks : meth.locks = false) (hname : meth.name = "<init>") : ri_clo (ri_W p l e r5_init s m args below meth c D ka sa base 1 (MQ below (ri_Qc D ka sa base Po) args s 2 800 (fun q => base ≤ q)) p5_init) (t5_init l Po) := by
  refine ri_clo_of ?_
  unfold t5_init
  exact ⟨s_aload_n X d5_init_0 rfl rfl,
    s_oi X (List.mem_cons_of_mem _ mgw_197) (List.mem_cons_of_mem _ mgw_22) (List.mem_cons_of_mem _ mgw_23) d5_init_1 rfl,
    s_aload_n X d5_init_4 rfl rfl,
    s_sipush X d5_init_5 rfl rfl,
    s_newi X rfl (List.mem_cons_of_mem _ mgw_78) d5_init_8 rfl,
    s_putF X (ci := 5) (f := 1) rfl (fun w h => List.mem_cons_of_mem _ (uC_5 w h)) (by decide) tC_5 oC_5 nC_5 rfl ri_ok_arr (List.mem_cons_of_mem _ mgw_203) hname rfl d5_init_10 rfl,
    s_aload_n X d5_init_13 rfl rfl,
    s_sipush X d5_init_14 rfl rfl,
    s_newi X rfl (List.mem_cons_of_mem _ mgw_78) d5_init_17 rfl,
    s_putF X (ci := 5) (f := 2) rfl (fun w h => List.mem_cons_of_mem _ (uC_5 w h)) (by decide) tC_5 oC_5 nC_5 rfl ri_ok_arr (List.mem_cons_of_mem _ mgw_206) hname rfl d5_init_19 rfl,
    s_vret X hret hlocks d5_init_22, trivial⟩
theorem d11_withVoice_0 : decode c11_withVoice 0 = .ok (.iload_n 0, 1) := by decide +kernel
theorem d11_withVoice_1 : decode c11_withVoice 1 = .ok (.bipush 6, 2) := by decide +kernel
theorem d11_withVoice_3 : decode c11_withVoice 3 = .ok (.ishl, 1) := by decide +kernel
theorem d11_withVoice_4 : decode c11_withVoice 4 = .ok (.iload_n 1, 1) := by decide +kernel
theorem d11_withVoice_5 : decode c11_withVoice 5 = .ok (.bipush 36, 2) := by decide +kernel
theorem d11_withVoice_7 : decode c11_withVoice 7 = .ok (.isub, 1) := by decide +kernel
theorem d11_withVoice_8 : decode c11_withVoice 8 = .ok (.ior, 1) := by decide +kernel
theorem d11_withVoice_9 : decode c11_withVoice 9 = .ok (.ireturn, 1) := by decide +kernel
def t11_withVoice (l : Launch) (Po : ri_O) : List ri_S := [i_il 1 0,
  i_con 2 6,
  i_bin 3 (fun x y => x <<< (y &&& 31)),
  i_il 4 1,
  i_con 5 36,
  i_bin 6 (fun x y => x - y),
  i_bin 7 (fun x y => x ||| y),
  i_ret Po 0 0]
set_option maxRecDepth 20000 in
set_option maxHeartbeats 4000000 in
theorem z11_withVoice (l : Launch) (Po : ri_O) (p : Program) (e : Env) (s : State) (m : MethodId) (args : Array Value) (below : List Frame) (meth : Method) (c : Code) (D : va_G) (ka : Nat → ClassId) (sa : Nat → Nat) (base : Nat) (X : ri_X p s m args c c11_withVoice 2 w11_withVoice "ChoraleSearch$Code" D ka sa base) (hret : meth.sig.returnType = (some .int)) (hlocks : meth.locks = false) (hname : meth.name = "withVoice") : ri_clo (ri_W p l e r11_withVoice s m args below meth c D ka sa base 2 (MQ below (ri_Qc D ka sa base Po) args s 0 0 (fun q => base ≤ q)) p11_withVoice) (t11_withVoice l Po) := by
  refine ri_clo_of ?_
  unfold t11_withVoice
  exact ⟨s_iload_n X d11_withVoice_0 rfl rfl,
    s_bipush X d11_withVoice_1 rfl rfl,
    s_ishl X d11_withVoice_3 rfl,
    s_iload_n X d11_withVoice_4 rfl rfl,
    s_bipush X d11_withVoice_5 rfl rfl,
    s_isub X d11_withVoice_7 rfl,
    s_ior X d11_withVoice_8 rfl,
    s_iret X hret hlocks d11_withVoice_9, trivial⟩
theorem d11_withChord_0 : decode c11_withChord 0 = .ok (.iload_n 0, 1) := by decide +kernel
theorem d11_withChord_1 : decode c11_withChord 1 = .ok (.iconst 4, 1) := by decide +kernel
theorem d11_withChord_2 : decode c11_withChord 2 = .ok (.ishl, 1) := by decide +kernel
theorem d11_withChord_3 : decode c11_withChord 3 = .ok (.iload_n 1, 1) := by decide +kernel
theorem d11_withChord_4 : decode c11_withChord 4 = .ok (.ior, 1) := by decide +kernel
theorem d11_withChord_5 : decode c11_withChord 5 = .ok (.ireturn, 1) := by decide +kernel
def t11_withChord (l : Launch) (Po : ri_O) : List ri_S := [i_il 1 0,
  i_con 2 4,
  i_bin 3 (fun x y => x <<< (y &&& 31)),
  i_il 4 1,
  i_bin 5 (fun x y => x ||| y),
  i_ret Po 0 0]
set_option maxRecDepth 20000 in
set_option maxHeartbeats 4000000 in
theorem z11_withChord (l : Launch) (Po : ri_O) (p : Program) (e : Env) (s : State) (m : MethodId) (args : Array Value) (below : List Frame) (meth : Method) (c : Code) (D : va_G) (ka : Nat → ClassId) (sa : Nat → Nat) (base : Nat) (X : ri_X p s m args c c11_withChord 2 w11_withChord "ChoraleSearch$Code" D ka sa base) (hret : meth.sig.returnType = (some .int)) (hlocks : meth.locks = false) (hname : meth.name = "withChord") : ri_clo (ri_W p l e r11_withChord s m args below meth c D ka sa base 2 (MQ below (ri_Qc D ka sa base Po) args s 0 0 (fun q => base ≤ q)) p11_withChord) (t11_withChord l Po) := by
  refine ri_clo_of ?_
  unfold t11_withChord
  exact ⟨s_iload_n X d11_withChord_0 rfl rfl,
    s_iconst X d11_withChord_1 rfl rfl,
    s_ishl X d11_withChord_2 rfl,
    s_iload_n X d11_withChord_3 rfl rfl,
    s_ior X d11_withChord_4 rfl,
    s_iret X hret hlocks d11_withChord_5, trivial⟩
theorem d11_timesClass_0 : decode c11_timesClass 0 = .ok (.iconst 0, 1) := by decide +kernel
theorem d11_timesClass_1 : decode c11_timesClass 1 = .ok (.istore_n 2, 1) := by decide +kernel
theorem d11_timesClass_2 : decode c11_timesClass 2 = .ok (.iload_n 0, 1) := by decide +kernel
theorem d11_timesClass_3 : decode c11_timesClass 3 = .ok (.iconst 4, 1) := by decide +kernel
theorem d11_timesClass_4 : decode c11_timesClass 4 = .ok (.ishr, 1) := by decide +kernel
theorem d11_timesClass_5 : decode c11_timesClass 5 = .ok (.istore_n 3, 1) := by decide +kernel
theorem d11_timesClass_6 : decode c11_timesClass 6 = .ok (.iconst 4, 1) := by decide +kernel
theorem d11_timesClass_7 : decode c11_timesClass 7 = .ok (.istore 4, 2) := by decide +kernel
theorem d11_timesClass_9 : decode c11_timesClass 9 = .ok (.iload 4, 2) := by decide +kernel
theorem d11_timesClass_11 : decode c11_timesClass 11 = .ok (.ifCond .le 31, 3) := by decide +kernel
theorem d11_timesClass_14 : decode c11_timesClass 14 = .ok (.bipush 36, 2) := by decide +kernel
theorem d11_timesClass_16 : decode c11_timesClass 16 = .ok (.iload_n 3, 1) := by decide +kernel
theorem d11_timesClass_17 : decode c11_timesClass 17 = .ok (.bipush 63, 2) := by decide +kernel
theorem d11_timesClass_19 : decode c11_timesClass 19 = .ok (.iand, 1) := by decide +kernel
theorem d11_timesClass_20 : decode c11_timesClass 20 = .ok (.iadd, 1) := by decide +kernel
theorem d11_timesClass_21 : decode c11_timesClass 21 = .ok (.bipush 12, 2) := by decide +kernel
theorem d11_timesClass_23 : decode c11_timesClass 23 = .ok (.irem, 1) := by decide +kernel
theorem d11_timesClass_24 : decode c11_timesClass 24 = .ok (.iload_n 1, 1) := by decide +kernel
theorem d11_timesClass_25 : decode c11_timesClass 25 = .ok (.if_icmp .ne 6, 3) := by decide +kernel
theorem d11_timesClass_28 : decode c11_timesClass 28 = .ok (.iinc 2 1, 3) := by decide +kernel
theorem d11_timesClass_31 : decode c11_timesClass 31 = .ok (.iload_n 3, 1) := by decide +kernel
theorem d11_timesClass_32 : decode c11_timesClass 32 = .ok (.bipush 6, 2) := by decide +kernel
theorem d11_timesClass_34 : decode c11_timesClass 34 = .ok (.ishr, 1) := by decide +kernel
theorem d11_timesClass_35 : decode c11_timesClass 35 = .ok (.istore_n 3, 1) := by decide +kernel
theorem d11_timesClass_36 : decode c11_timesClass 36 = .ok (.iinc 4 (-1), 3) := by decide +kernel
theorem d11_timesClass_39 : decode c11_timesClass 39 = .ok (.goto (-30), 3) := by decide +kernel
theorem d11_timesClass_42 : decode c11_timesClass 42 = .ok (.iload_n 2, 1) := by decide +kernel
theorem d11_timesClass_43 : decode c11_timesClass 43 = .ok (.ireturn, 1) := by decide +kernel
def t11_timesClass (l : Launch) (Po : ri_O) : List ri_S := [i_con 1 0,
  i_is 2 2,
  i_il 3 0,
  i_con 4 4,
  i_bin 5 (fun x y => x >>> (y &&& 31)),
  i_is 6 3,
  i_con 7 4,
  i_is 8 4,
  i_il 9 4,
  i_if 10 26 (fun x => x ≤ 0),
  i_con 11 36,
  i_il 12 3,
  i_con 13 63,
  i_bin 14 (fun x y => x &&& y),
  i_bin 15 (fun x y => x + y),
  i_con 16 12,
  i_div 17 (fun x y => x - x / y * y),
  i_il 18 1,
  i_icmp 19 20 (fun x y => ¬ x = y),
  i_inc 20 2 1,
  i_il 21 3,
  i_con 22 6,
  i_bin 23 (fun x y => x >>> (y &&& 31)),
  i_is 24 3,
  i_inc 25 4 (-1),
  i_goto 8,
  i_il 27 2,
  i_ret Po 0 0]
set_option maxRecDepth 20000 in
set_option maxHeartbeats 4000000 in
theorem z11_timesClass (l : Launch) (Po : ri_O) (p : Program) (e : Env) (s : State) (m : MethodId) (args : Array Value) (below : List Frame) (meth : Method) (c : Code) (D : va_G) (ka : Nat → ClassId) (sa : Nat → Nat) (base : Nat) (X : ri_X p s m args c c11_timesClass 5 w11_timesClass "ChoraleSearch$Code" D ka sa base) (hret : meth.sig.returnType = (some .int)) (hlocks : meth.locks = false) (hname : meth.name = "timesClass") : ri_clo (ri_W p l e r11_timesClass s m args below meth c D ka sa base 5 (MQ below (ri_Qc D ka sa base Po) args s 0 0 (fun q => base ≤ q)) p11_timesClass) (t11_timesClass l Po) := by
  refine ri_clo_of ?_
  unfold t11_timesClass
  exact ⟨s_iconst X d11_timesClass_0 rfl rfl,
    s_istore_n X d11_timesClass_1 rfl (by decide) rfl,
    s_iload_n X d11_timesClass_2 rfl rfl,
    s_iconst X d11_timesClass_3 rfl rfl,
    s_ishr X d11_timesClass_4 rfl,
    s_istore_n X d11_timesClass_5 rfl (by decide) rfl,
    s_iconst X d11_timesClass_6 rfl rfl,
    s_istore X d11_timesClass_7 (by decide) rfl,
    s_iload X d11_timesClass_9 rfl,
    s_if_le X d11_timesClass_11 rfl rfl,
    s_bipush X d11_timesClass_14 rfl rfl,
    s_iload_n X d11_timesClass_16 rfl rfl,
    s_bipush X d11_timesClass_17 rfl rfl,
    s_iand X d11_timesClass_19 rfl,
    s_iadd X d11_timesClass_20 rfl,
    s_bipush X d11_timesClass_21 rfl rfl,
    s_irem X d11_timesClass_23 rfl,
    s_iload_n X d11_timesClass_24 rfl rfl,
    s_icmp_ne X d11_timesClass_25 rfl rfl,
    s_iinc X d11_timesClass_28 rfl (by decide) rfl,
    s_iload_n X d11_timesClass_31 rfl rfl,
    s_bipush X d11_timesClass_32 rfl rfl,
    s_ishr X d11_timesClass_34 rfl,
    s_istore_n X d11_timesClass_35 rfl (by decide) rfl,
    s_iinc X d11_timesClass_36 rfl (by decide) rfl,
    s_goto X d11_timesClass_39 rfl,
    s_iload_n X d11_timesClass_42 rfl rfl,
    s_iret X hret hlocks d11_timesClass_43, trivial⟩
theorem d5_add_0 : decode c5_add 0 = .ok (.aload_n 0, 1) := by decide +kernel
theorem d5_add_1 : decode c5_add 1 = .ok (.getfield 18, 3) := by decide +kernel
theorem d5_add_4 : decode c5_add 4 = .ok (.sipush 400, 3) := by decide +kernel
theorem d5_add_7 : decode c5_add 7 = .ok (.if_icmp .ge 13, 3) := by decide +kernel
theorem d5_add_10 : decode c5_add 10 = .ok (.aload_n 0, 1) := by decide +kernel
theorem d5_add_11 : decode c5_add 11 = .ok (.getfield 9, 3) := by decide +kernel
theorem d5_add_14 : decode c5_add 14 = .ok (.aload_n 0, 1) := by decide +kernel
theorem d5_add_15 : decode c5_add 15 = .ok (.getfield 18, 3) := by decide +kernel
theorem d5_add_18 : decode c5_add 18 = .ok (.iload_n 1, 1) := by decide +kernel
theorem d5_add_19 : decode c5_add 19 = .ok (.iastore, 1) := by decide +kernel
theorem d5_add_20 : decode c5_add 20 = .ok (.aload_n 0, 1) := by decide +kernel
theorem d5_add_21 : decode c5_add 21 = .ok (.dup, 1) := by decide +kernel
theorem d5_add_22 : decode c5_add 22 = .ok (.getfield 18, 3) := by decide +kernel
theorem d5_add_25 : decode c5_add 25 = .ok (.iconst 1, 1) := by decide +kernel
theorem d5_add_26 : decode c5_add 26 = .ok (.iadd, 1) := by decide +kernel
theorem d5_add_27 : decode c5_add 27 = .ok (.putfield 18, 3) := by decide +kernel
theorem d5_add_30 : decode c5_add 30 = .ok (.return_, 1) := by decide +kernel
def t5_add (l : Launch) (Po : ri_O) : List ri_S := [i_al 1 0,
  i_get 2 5 0,
  i_con 3 400,
  i_icmp 4 10 (fun x y => y ≤ x),
  i_al 5 0,
  i_get 6 5 1,
  i_al 7 0,
  i_get 8 5 0,
  i_il 9 1,
  i_ast 10 0 (fun x => x),
  i_al 11 0,
  i_dup 12,
  i_get 13 5 0,
  i_con 14 1,
  i_bin 15 (fun x y => x + y),
  i_put 16 5 0 ri_isI,
  i_vret Po 0 0]
set_option maxRecDepth 20000 in
set_option maxHeartbeats 4000000 in
theorem z5_add (l : Launch) (Po : ri_O) (p : Program) (e : Env) (s : State) (m : MethodId) (args : Array Value) (below : List Frame) (meth : Method) (c : Code) (D : va_G) (ka : Nat → ClassId) (sa : Nat → Nat) (base : Nat) (X : ri_X p s m args c c5_add 2 w5_add "ChoraleSearch$Layer" D ka sa base) (hret : meth.sig.returnType = none) (hlocks : meth.locks = false) (hname : meth.name = "add") : ri_clo (ri_W p l e r5_add s m args below meth c D ka sa base 2 (MQ below (ri_Qc D ka sa base Po) args s 0 0 (fun q => base ≤ q)) p5_add) (t5_add l Po) := by
  refine ri_clo_of ?_
  unfold t5_add
  exact ⟨s_aload_n X d5_add_0 rfl rfl,
    s_get X (ci := 5) (f := 0) rfl (fun w h => List.mem_cons_of_mem _ (uC_5 w h)) (by decide) (List.mem_cons_of_mem _ mgw_198) d5_add_1 rfl,
    s_sipush X d5_add_4 rfl rfl,
    s_icmp_ge X d5_add_7 rfl rfl,
    s_aload_n X d5_add_10 rfl rfl,
    s_get X (ci := 5) (f := 1) rfl (fun w h => List.mem_cons_of_mem _ (uC_5 w h)) (by decide) (List.mem_cons_of_mem _ mgw_203) d5_add_11 rfl,
    s_aload_n X d5_add_14 rfl rfl,
    s_get X (ci := 5) (f := 0) rfl (fun w h => List.mem_cons_of_mem _ (uC_5 w h)) (by decide) (List.mem_cons_of_mem _ mgw_198) d5_add_15 rfl,
    s_iload_n X d5_add_18 rfl rfl,
    s_iast X rfl d5_add_19 rfl,
    s_aload_n X d5_add_20 rfl rfl,
    s_dup X d5_add_21 rfl,
    s_get X (ci := 5) (f := 0) rfl (fun w h => List.mem_cons_of_mem _ (uC_5 w h)) (by decide) (List.mem_cons_of_mem _ mgw_198) d5_add_22 rfl,
    s_iconst X d5_add_25 rfl rfl,
    s_iadd X d5_add_26 rfl,
    s_put X (ci := 5) (f := 0) rfl (fun w h => List.mem_cons_of_mem _ (uC_5 w h)) (by decide) tC_5 oC_5 nC_5 rfl ri_ok_int (List.mem_cons_of_mem _ mgw_198) d5_add_27 rfl,
    s_vret X hret hlocks d5_add_30, trivial⟩
theorem d5_kept_0 : decode c5_kept 0 = .ok (.aload_n 0, 1) := by decide +kernel
theorem d5_kept_1 : decode c5_kept 1 = .ok (.getfield 18, 3) := by decide +kernel
theorem d5_kept_4 : decode c5_kept 4 = .ok (.sipush 400, 3) := by decide +kernel
theorem d5_kept_7 : decode c5_kept 7 = .ok (.invokestatic 22, 3) := by decide +kernel
theorem d5_kept_10 : decode c5_kept 10 = .ok (.ireturn, 1) := by decide +kernel
def t5_kept (l : Launch) (Po : ri_O) : List ri_S := [i_al 1 0,
  i_get 2 5 0,
  i_con 3 400,
  i_m2 4 (fun x y => if y < x then y else x) 1 21 0 0,
  i_ret Po 0 0]
set_option maxRecDepth 20000 in
set_option maxHeartbeats 4000000 in
theorem z5_kept (l : Launch) (Po : ri_O) (p : Program) (e : Env) (s : State) (m : MethodId) (args : Array Value) (below : List Frame) (meth : Method) (c : Code) (D : va_G) (ka : Nat → ClassId) (sa : Nat → Nat) (base : Nat) (X : ri_X p s m args c c5_kept 1 w5_kept "ChoraleSearch$Layer" D ka sa base) (hret : meth.sig.returnType = (some .int)) (hlocks : meth.locks = false) (hname : meth.name = "kept") : ri_clo (ri_W p l e r5_kept s m args below meth c D ka sa base 1 (MQ below (ri_Qc D ka sa base Po) args s 0 0 (fun q => base ≤ q)) p5_kept) (t5_kept l Po) := by
  refine ri_clo_of ?_
  unfold t5_kept
  exact ⟨s_aload_n X d5_kept_0 rfl rfl,
    s_get X (ci := 5) (f := 0) rfl (fun w h => List.mem_cons_of_mem _ (uC_5 w h)) (by decide) (List.mem_cons_of_mem _ mgw_198) d5_kept_1 rfl,
    s_sipush X d5_kept_4 rfl rfl,
    s_min X (List.mem_cons_of_mem _ mgw_521) (List.mem_cons_of_mem _ mgw_440) (List.mem_cons_of_mem _ mgw_13) (List.mem_cons_of_mem _ mgw_441) d5_kept_7 rfl,
    s_iret X hret hlocks d5_kept_10, trivial⟩
theorem d11_pitchOf_0 : decode c11_pitchOf 0 = .ok (.bipush 36, 2) := by decide +kernel
theorem d11_pitchOf_2 : decode c11_pitchOf 2 = .ok (.iload_n 0, 1) := by decide +kernel
theorem d11_pitchOf_3 : decode c11_pitchOf 3 = .ok (.iconst 4, 1) := by decide +kernel
theorem d11_pitchOf_4 : decode c11_pitchOf 4 = .ok (.bipush 6, 2) := by decide +kernel
theorem d11_pitchOf_6 : decode c11_pitchOf 6 = .ok (.iconst 3, 1) := by decide +kernel
theorem d11_pitchOf_7 : decode c11_pitchOf 7 = .ok (.iload_n 1, 1) := by decide +kernel
theorem d11_pitchOf_8 : decode c11_pitchOf 8 = .ok (.isub, 1) := by decide +kernel
theorem d11_pitchOf_9 : decode c11_pitchOf 9 = .ok (.imul, 1) := by decide +kernel
theorem d11_pitchOf_10 : decode c11_pitchOf 10 = .ok (.iadd, 1) := by decide +kernel
theorem d11_pitchOf_11 : decode c11_pitchOf 11 = .ok (.ishr, 1) := by decide +kernel
theorem d11_pitchOf_12 : decode c11_pitchOf 12 = .ok (.bipush 63, 2) := by decide +kernel
theorem d11_pitchOf_14 : decode c11_pitchOf 14 = .ok (.iand, 1) := by decide +kernel
theorem d11_pitchOf_15 : decode c11_pitchOf 15 = .ok (.iadd, 1) := by decide +kernel
theorem d11_pitchOf_16 : decode c11_pitchOf 16 = .ok (.ireturn, 1) := by decide +kernel
def t11_pitchOf (l : Launch) (Po : ri_O) : List ri_S := [i_con 1 36,
  i_il 2 0,
  i_con 3 4,
  i_con 4 6,
  i_con 5 3,
  i_il 6 1,
  i_bin 7 (fun x y => x - y),
  i_bin 8 (fun x y => x * y),
  i_bin 9 (fun x y => x + y),
  i_bin 10 (fun x y => x >>> (y &&& 31)),
  i_con 11 63,
  i_bin 12 (fun x y => x &&& y),
  i_bin 13 (fun x y => x + y),
  i_ret Po 0 0]
set_option maxRecDepth 20000 in
set_option maxHeartbeats 4000000 in
theorem z11_pitchOf (l : Launch) (Po : ri_O) (p : Program) (e : Env) (s : State) (m : MethodId) (args : Array Value) (below : List Frame) (meth : Method) (c : Code) (D : va_G) (ka : Nat → ClassId) (sa : Nat → Nat) (base : Nat) (X : ri_X p s m args c c11_pitchOf 2 w11_pitchOf "ChoraleSearch$Code" D ka sa base) (hret : meth.sig.returnType = (some .int)) (hlocks : meth.locks = false) (hname : meth.name = "pitchOf") : ri_clo (ri_W p l e r11_pitchOf s m args below meth c D ka sa base 2 (MQ below (ri_Qc D ka sa base Po) args s 0 0 (fun q => base ≤ q)) p11_pitchOf) (t11_pitchOf l Po) := by
  refine ri_clo_of ?_
  unfold t11_pitchOf
  exact ⟨s_bipush X d11_pitchOf_0 rfl rfl,
    s_iload_n X d11_pitchOf_2 rfl rfl,
    s_iconst X d11_pitchOf_3 rfl rfl,
    s_bipush X d11_pitchOf_4 rfl rfl,
    s_iconst X d11_pitchOf_6 rfl rfl,
    s_iload_n X d11_pitchOf_7 rfl rfl,
    s_isub X d11_pitchOf_8 rfl,
    s_imul X d11_pitchOf_9 rfl,
    s_iadd X d11_pitchOf_10 rfl,
    s_ishr X d11_pitchOf_11 rfl,
    s_bipush X d11_pitchOf_12 rfl rfl,
    s_iand X d11_pitchOf_14 rfl,
    s_iadd X d11_pitchOf_15 rfl,
    s_iret X hret hlocks d11_pitchOf_16, trivial⟩
theorem d11_chordOf_0 : decode c11_chordOf 0 = .ok (.iload_n 0, 1) := by decide +kernel
theorem d11_chordOf_1 : decode c11_chordOf 1 = .ok (.bipush 15, 2) := by decide +kernel
theorem d11_chordOf_3 : decode c11_chordOf 3 = .ok (.iand, 1) := by decide +kernel
theorem d11_chordOf_4 : decode c11_chordOf 4 = .ok (.ireturn, 1) := by decide +kernel
def t11_chordOf (l : Launch) (Po : ri_O) : List ri_S := [i_il 1 0,
  i_con 2 15,
  i_bin 3 (fun x y => x &&& y),
  i_ret Po 0 0]
set_option maxRecDepth 20000 in
set_option maxHeartbeats 4000000 in
theorem z11_chordOf (l : Launch) (Po : ri_O) (p : Program) (e : Env) (s : State) (m : MethodId) (args : Array Value) (below : List Frame) (meth : Method) (c : Code) (D : va_G) (ka : Nat → ClassId) (sa : Nat → Nat) (base : Nat) (X : ri_X p s m args c c11_chordOf 1 w11_chordOf "ChoraleSearch$Code" D ka sa base) (hret : meth.sig.returnType = (some .int)) (hlocks : meth.locks = false) (hname : meth.name = "chordOf") : ri_clo (ri_W p l e r11_chordOf s m args below meth c D ka sa base 1 (MQ below (ri_Qc D ka sa base Po) args s 0 0 (fun q => base ≤ q)) p11_chordOf) (t11_chordOf l Po) := by
  refine ri_clo_of ?_
  unfold t11_chordOf
  exact ⟨s_iload_n X d11_chordOf_0 rfl rfl,
    s_bipush X d11_chordOf_1 rfl rfl,
    s_iand X d11_chordOf_3 rfl,
    s_iret X hret hlocks d11_chordOf_4, trivial⟩
theorem d11_unpack_0 : decode c11_unpack 0 = .ok (.iload_n 0, 1) := by decide +kernel
theorem d11_unpack_1 : decode c11_unpack 1 = .ok (.iconst 4, 1) := by decide +kernel
theorem d11_unpack_2 : decode c11_unpack 2 = .ok (.ishr, 1) := by decide +kernel
theorem d11_unpack_3 : decode c11_unpack 3 = .ok (.istore_n 2, 1) := by decide +kernel
theorem d11_unpack_4 : decode c11_unpack 4 = .ok (.iconst 3, 1) := by decide +kernel
theorem d11_unpack_5 : decode c11_unpack 5 = .ok (.istore_n 3, 1) := by decide +kernel
theorem d11_unpack_6 : decode c11_unpack 6 = .ok (.iload_n 3, 1) := by decide +kernel
theorem d11_unpack_7 : decode c11_unpack 7 = .ok (.ifCond .lt 24, 3) := by decide +kernel
theorem d11_unpack_10 : decode c11_unpack 10 = .ok (.aload_n 1, 1) := by decide +kernel
theorem d11_unpack_11 : decode c11_unpack 11 = .ok (.iload_n 3, 1) := by decide +kernel
theorem d11_unpack_12 : decode c11_unpack 12 = .ok (.bipush 36, 2) := by decide +kernel
theorem d11_unpack_14 : decode c11_unpack 14 = .ok (.iload_n 2, 1) := by decide +kernel
theorem d11_unpack_15 : decode c11_unpack 15 = .ok (.bipush 63, 2) := by decide +kernel
theorem d11_unpack_17 : decode c11_unpack 17 = .ok (.iand, 1) := by decide +kernel
theorem d11_unpack_18 : decode c11_unpack 18 = .ok (.iadd, 1) := by decide +kernel
theorem d11_unpack_19 : decode c11_unpack 19 = .ok (.iastore, 1) := by decide +kernel
theorem d11_unpack_20 : decode c11_unpack 20 = .ok (.iload_n 2, 1) := by decide +kernel
theorem d11_unpack_21 : decode c11_unpack 21 = .ok (.bipush 6, 2) := by decide +kernel
theorem d11_unpack_23 : decode c11_unpack 23 = .ok (.ishr, 1) := by decide +kernel
theorem d11_unpack_24 : decode c11_unpack 24 = .ok (.istore_n 2, 1) := by decide +kernel
theorem d11_unpack_25 : decode c11_unpack 25 = .ok (.iinc 3 (-1), 3) := by decide +kernel
theorem d11_unpack_28 : decode c11_unpack 28 = .ok (.goto (-22), 3) := by decide +kernel
theorem d11_unpack_31 : decode c11_unpack 31 = .ok (.return_, 1) := by decide +kernel
def t11_unpack (l : Launch) (Po : ri_O) : List ri_S := [i_il 1 0,
  i_con 2 4,
  i_bin 3 (fun x y => x >>> (y &&& 31)),
  i_is 4 2,
  i_con 5 3,
  i_is 6 3,
  i_il 7 3,
  i_if 8 22 (fun x => x < 0),
  i_al 9 1,
  i_il 10 3,
  i_con 11 36,
  i_il 12 2,
  i_con 13 63,
  i_bin 14 (fun x y => x &&& y),
  i_bin 15 (fun x y => x + y),
  i_ast 16 0 (fun x => x),
  i_il 17 2,
  i_con 18 6,
  i_bin 19 (fun x y => x >>> (y &&& 31)),
  i_is 20 2,
  i_inc 21 3 (-1),
  i_goto 6,
  i_vret Po 0 0]
set_option maxRecDepth 20000 in
set_option maxHeartbeats 4000000 in
theorem z11_unpack (l : Launch) (Po : ri_O) (p : Program) (e : Env) (s : State) (m : MethodId) (args : Array Value) (below : List Frame) (meth : Method) (c : Code) (D : va_G) (ka : Nat → ClassId) (sa : Nat → Nat) (base : Nat) (X : ri_X p s m args c c11_unpack 4 w11_unpack "ChoraleSearch$Code" D ka sa base) (hret : meth.sig.returnType = none) (hlocks : meth.locks = false) (hname : meth.name = "unpack") : ri_clo (ri_W p l e r11_unpack s m args below meth c D ka sa base 4 (MQ below (ri_Qc D ka sa base Po) args s 0 0 (fun q => base ≤ q)) p11_unpack) (t11_unpack l Po) := by
  refine ri_clo_of ?_
  unfold t11_unpack
  exact ⟨s_iload_n X d11_unpack_0 rfl rfl,
    s_iconst X d11_unpack_1 rfl rfl,
    s_ishr X d11_unpack_2 rfl,
    s_istore_n X d11_unpack_3 rfl (by decide) rfl,
    s_iconst X d11_unpack_4 rfl rfl,
    s_istore_n X d11_unpack_5 rfl (by decide) rfl,
    s_iload_n X d11_unpack_6 rfl rfl,
    s_if_lt X d11_unpack_7 rfl rfl,
    s_aload_n X d11_unpack_10 rfl rfl,
    s_iload_n X d11_unpack_11 rfl rfl,
    s_bipush X d11_unpack_12 rfl rfl,
    s_iload_n X d11_unpack_14 rfl rfl,
    s_bipush X d11_unpack_15 rfl rfl,
    s_iand X d11_unpack_17 rfl,
    s_iadd X d11_unpack_18 rfl,
    s_iast X rfl d11_unpack_19 rfl,
    s_iload_n X d11_unpack_20 rfl rfl,
    s_bipush X d11_unpack_21 rfl rfl,
    s_ishr X d11_unpack_23 rfl,
    s_istore_n X d11_unpack_24 rfl (by decide) rfl,
    s_iinc X d11_unpack_25 rfl (by decide) rfl,
    s_goto X d11_unpack_28 rfl,
    s_vret X hret hlocks d11_unpack_31, trivial⟩
theorem d5_isMarked_0 : decode c5_isMarked 0 = .ok (.aload_n 0, 1) := by decide +kernel
theorem d5_isMarked_1 : decode c5_isMarked 1 = .ok (.getfield 15, 3) := by decide +kernel
theorem d5_isMarked_4 : decode c5_isMarked 4 = .ok (.iload_n 1, 1) := by decide +kernel
theorem d5_isMarked_5 : decode c5_isMarked 5 = .ok (.iaload, 1) := by decide +kernel
theorem d5_isMarked_6 : decode c5_isMarked 6 = .ok (.iload_n 2, 1) := by decide +kernel
theorem d5_isMarked_7 : decode c5_isMarked 7 = .ok (.iand, 1) := by decide +kernel
theorem d5_isMarked_8 : decode c5_isMarked 8 = .ok (.ifCond .eq 7, 3) := by decide +kernel
theorem d5_isMarked_11 : decode c5_isMarked 11 = .ok (.iconst 1, 1) := by decide +kernel
theorem d5_isMarked_12 : decode c5_isMarked 12 = .ok (.goto 4, 3) := by decide +kernel
theorem d5_isMarked_15 : decode c5_isMarked 15 = .ok (.iconst 0, 1) := by decide +kernel
theorem d5_isMarked_16 : decode c5_isMarked 16 = .ok (.ireturn, 1) := by decide +kernel
def t5_isMarked (l : Launch) (Po : ri_O) : List ri_S := [i_al 1 0,
  i_get 2 5 2,
  i_il 3 1,
  i_ald 4 0,
  i_il 5 2,
  i_bin 6 (fun x y => x &&& y),
  i_if 7 9 (fun x => x = 0),
  i_con 8 1,
  i_goto 10,
  i_con 10 0,
  i_zret Po 0 0]
set_option maxRecDepth 20000 in
set_option maxHeartbeats 4000000 in
theorem z5_isMarked (l : Launch) (Po : ri_O) (p : Program) (e : Env) (s : State) (m : MethodId) (args : Array Value) (below : List Frame) (meth : Method) (c : Code) (D : va_G) (ka : Nat → ClassId) (sa : Nat → Nat) (base : Nat) (X : ri_X p s m args c c5_isMarked 3 w5_isMarked "ChoraleSearch$Layer" D ka sa base) (hret : meth.sig.returnType = (some .boolean)) (hlocks : meth.locks = false) (hname : meth.name = "isMarked") : ri_clo (ri_W p l e r5_isMarked s m args below meth c D ka sa base 3 (MQ below (ri_Qc D ka sa base Po) args s 0 0 (fun q => base ≤ q)) p5_isMarked) (t5_isMarked l Po) := by
  refine ri_clo_of ?_
  unfold t5_isMarked
  exact ⟨s_aload_n X d5_isMarked_0 rfl rfl,
    s_get X (ci := 5) (f := 2) rfl (fun w h => List.mem_cons_of_mem _ (uC_5 w h)) (by decide) (List.mem_cons_of_mem _ mgw_206) d5_isMarked_1 rfl,
    s_iload_n X d5_isMarked_4 rfl rfl,
    s_iald X rfl d5_isMarked_5 rfl,
    s_iload_n X d5_isMarked_6 rfl rfl,
    s_iand X d5_isMarked_7 rfl,
    s_if_eq X d5_isMarked_8 rfl rfl,
    s_iconst X d5_isMarked_11 rfl rfl,
    s_goto X d5_isMarked_12 rfl,
    s_iconst X d5_isMarked_15 rfl rfl,
    s_zret X hret hlocks d5_isMarked_16, trivial⟩
