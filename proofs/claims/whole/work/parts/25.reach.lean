theorem d4_init_0 : decode c4_init 0 = .ok (.aload_n 0, 1) := by decide +kernel
theorem d4_init_1 : decode c4_init 1 = .ok (.invokespecial 3, 3) := by decide +kernel
theorem d4_init_4 : decode c4_init 4 = .ok (.aload_n 0, 1) := by decide +kernel
theorem d4_init_5 : decode c4_init 5 = .ok (.bipush 16, 2) := by decide +kernel
theorem d4_init_7 : decode c4_init 7 = .ok (.anewarray 9, 3) := by decide +kernel
theorem d4_init_10 : decode c4_init 10 = .ok (.putfield 11, 3) := by decide +kernel
theorem d4_init_13 : decode c4_init 13 = .ok (.aload_n 0, 1) := by decide +kernel
theorem d4_init_14 : decode c4_init 14 = .ok (.aload_n 1, 1) := by decide +kernel
theorem d4_init_15 : decode c4_init 15 = .ok (.putfield 17, 3) := by decide +kernel
theorem d4_init_18 : decode c4_init 18 = .ok (.aload_n 0, 1) := by decide +kernel
theorem d4_init_19 : decode c4_init 19 = .ok (.aload_n 2, 1) := by decide +kernel
theorem d4_init_20 : decode c4_init 20 = .ok (.putfield 21, 3) := by decide +kernel
theorem d4_init_23 : decode c4_init 23 = .ok (.iconst 0, 1) := by decide +kernel
theorem d4_init_24 : decode c4_init 24 = .ok (.istore_n 3, 1) := by decide +kernel
theorem d4_init_25 : decode c4_init 25 = .ok (.iload_n 3, 1) := by decide +kernel
theorem d4_init_26 : decode c4_init 26 = .ok (.bipush 16, 2) := by decide +kernel
theorem d4_init_28 : decode c4_init 28 = .ok (.if_icmp .ge 22, 3) := by decide +kernel
theorem d4_init_31 : decode c4_init 31 = .ok (.aload_n 0, 1) := by decide +kernel
theorem d4_init_32 : decode c4_init 32 = .ok (.getfield 11, 3) := by decide +kernel
theorem d4_init_35 : decode c4_init 35 = .ok (.iload_n 3, 1) := by decide +kernel
theorem d4_init_36 : decode c4_init 36 = .ok (.new 9, 3) := by decide +kernel
theorem d4_init_39 : decode c4_init 39 = .ok (.dup, 1) := by decide +kernel
theorem d4_init_40 : decode c4_init 40 = .ok (.invokespecial 25, 3) := by decide +kernel
theorem d4_init_43 : decode c4_init 43 = .ok (.aastore, 1) := by decide +kernel
theorem d4_init_44 : decode c4_init 44 = .ok (.iinc 3 1, 3) := by decide +kernel
theorem d4_init_47 : decode c4_init 47 = .ok (.goto (-22), 3) := by decide +kernel
theorem d4_init_50 : decode c4_init 50 = .ok (.return_, 1) := by decide +kernel
def t4_init (l : Launch) (Po : ri_O) : List ri_S := [i_al 1 0,
  i_oi 2 2 40,
  i_al 3 0,
  i_con 4 16,
  i_nwq 5 2 49 12864,
  i_put 6 4 2 ri_isR,
  i_al 7 0,
  i_al 8 1,
  i_put 9 4 0 ri_isR,
  i_al 10 0,
  i_al 11 2,
  i_put 12 4 1 ri_isR,
  i_con 13 0,
  i_is 14 3,
  i_il 15 3,
  i_con 16 16,
  i_icmp 17 26 (fun x y => y ≤ x),
  i_al 18 0,
  i_get 19 4 2,
  i_il 20 3,
  i_nw 21 5 3 [.int 0, .null, .null] 49 12864,
  i_dup 22,
  i_callV 23 1 5 (ri_Ev l y5_init w5_init r5_init 2 800) 2 800 49 12864,
  i_aast 24 2 5,
  i_inc 25 3 1,
  i_goto 14,
  i_vret Po 49 12864]
set_option maxRecDepth 20000 in
set_option maxHeartbeats 4000000 in
theorem z4_init (l : Launch) (Po : ri_O) (p : Program) (e : Env) (s : State) (m : MethodId) (args : Array Value) (below : List Frame) (meth : Method) (c : Code) (D : va_G) (ka : Nat → ClassId) (sa : Nat → Nat) (base : Nat) (X : ri_X p s m args c c4_init 4 w4_init "ChoraleSearch$Table" D ka sa base) (hret : meth.sig.returnType = none) (hlocks : meth.locks = false) (hname : meth.name = "<init>") : ri_clo (ri_W p l e r4_init s m args below meth c D ka sa base 4 (MQ below (ri_Qc D ka sa base Po) args s 49 12864 (fun q => base ≤ q)) p4_init) (t4_init l Po) := by
  refine ri_clo_of ?_
  unfold t4_init
  exact ⟨s_aload_n X d4_init_0 rfl rfl,
    s_oi X (List.mem_cons_of_mem _ mgw_190) (List.mem_cons_of_mem _ mgw_22) (List.mem_cons_of_mem _ mgw_23) d4_init_1 rfl,
    s_aload_n X d4_init_4 rfl rfl,
    s_bipush X d4_init_5 rfl rfl,
    s_anew X (kd := 2) rfl (List.mem_of_getElem? (i := 0) rfl) (List.mem_cons_of_mem _ mgw_191) d4_init_7 rfl,
    s_putF X (ci := 4) (f := 2) rfl (fun w h => List.mem_cons_of_mem _ (uC_4 w h)) (by decide) tC_4 oC_4 nC_4 rfl ri_ok_arr (List.mem_cons_of_mem _ mgw_217) hname rfl d4_init_10 rfl,
    s_aload_n X d4_init_13 rfl rfl,
    s_aload_n X d4_init_14 rfl rfl,
    s_putF X (ci := 4) (f := 0) rfl (fun w h => List.mem_cons_of_mem _ (uC_4 w h)) (by decide) tC_4 oC_4 nC_4 rfl ri_ok_ref (List.mem_cons_of_mem _ mgw_215) hname rfl d4_init_15 rfl,
    s_aload_n X d4_init_18 rfl rfl,
    s_aload_n X d4_init_19 rfl rfl,
    s_putF X (ci := 4) (f := 1) rfl (fun w h => List.mem_cons_of_mem _ (uC_4 w h)) (by decide) tC_4 oC_4 nC_4 rfl ri_ok_ref (List.mem_cons_of_mem _ mgw_216) hname rfl d4_init_20 rfl,
    s_iconst X d4_init_23 rfl rfl,
    s_istore_n X d4_init_24 rfl (by decide) rfl,
    s_iload_n X d4_init_25 rfl rfl,
    s_bipush X d4_init_26 rfl rfl,
    s_icmp_ge X d4_init_28 rfl rfl,
    s_aload_n X d4_init_31 rfl rfl,
    s_get X (ci := 4) (f := 2) rfl (fun w h => List.mem_cons_of_mem _ (uC_4 w h)) (by decide) (List.mem_cons_of_mem _ mgw_217) d4_init_32 rfl,
    s_iload_n X d4_init_35 rfl rfl,
    s_new X (ci := 5) rfl (fun w h => List.mem_cons_of_mem _ (uC_5 w h)) tC_5 oC_5 fC_5 rfl (List.mem_cons_of_mem _ mgw_191) (List.mem_cons_of_mem _ mgw_193) (List.mem_cons_of_mem _ mgw_8) d4_init_36 rfl,
    s_dup X d4_init_39 rfl,
    s_callIN ri_NW_ok X (na := 0) (ci := 5) rfl ⟨ri_cN X 0 mgw_196 (List.mem_cons_of_mem _ mgw_8) (List.mem_of_getElem? (i := 25) rfl) (by decide +kernel) rfl rfl ⟨by decide, by decide⟩, rfl, X.2.2.2.2.1 _ (List.mem_cons_of_mem _ mgw_195)⟩ d4_init_40 rfl,
    s_aast X (kd := 2) (ci := 5) rfl rfl d4_init_43 rfl,
    s_iinc X d4_init_44 rfl (by decide) rfl,
    s_goto X d4_init_47 rfl,
    s_vret X hret hlocks d4_init_50, trivial⟩
theorem d6_init_0 : decode c6_init 0 = .ok (.aload_n 0, 1) := by decide +kernel
theorem d6_init_1 : decode c6_init 1 = .ok (.invokespecial 3, 3) := by decide +kernel
theorem d6_init_4 : decode c6_init 4 = .ok (.aload_n 0, 1) := by decide +kernel
theorem d6_init_5 : decode c6_init 5 = .ok (.new 9, 3) := by decide +kernel
theorem d6_init_8 : decode c6_init 8 = .ok (.dup, 1) := by decide +kernel
theorem d6_init_9 : decode c6_init 9 = .ok (.invokespecial 11, 3) := by decide +kernel
theorem d6_init_12 : decode c6_init 12 = .ok (.putfield 12, 3) := by decide +kernel
theorem d6_init_15 : decode c6_init 15 = .ok (.aload_n 0, 1) := by decide +kernel
theorem d6_init_16 : decode c6_init 16 = .ok (.aload_n 1, 1) := by decide +kernel
theorem d6_init_17 : decode c6_init 17 = .ok (.putfield 18, 3) := by decide +kernel
theorem d6_init_20 : decode c6_init 20 = .ok (.aload_n 0, 1) := by decide +kernel
theorem d6_init_21 : decode c6_init 21 = .ok (.aload_n 2, 1) := by decide +kernel
theorem d6_init_22 : decode c6_init 22 = .ok (.putfield 22, 3) := by decide +kernel
theorem d6_init_25 : decode c6_init 25 = .ok (.aload_n 0, 1) := by decide +kernel
theorem d6_init_26 : decode c6_init 26 = .ok (.aload_n 3, 1) := by decide +kernel
theorem d6_init_27 : decode c6_init 27 = .ok (.putfield 26, 3) := by decide +kernel
theorem d6_init_30 : decode c6_init 30 = .ok (.aload_n 0, 1) := by decide +kernel
theorem d6_init_31 : decode c6_init 31 = .ok (.aload 4, 2) := by decide +kernel
theorem d6_init_33 : decode c6_init 33 = .ok (.putfield 30, 3) := by decide +kernel
theorem d6_init_36 : decode c6_init 36 = .ok (.return_, 1) := by decide +kernel
def t6_init (l : Launch) (Po : ri_O) : List ri_S := [i_al 1 0,
  i_oi 2 2 40,
  i_al 3 0,
  i_nw 4 5 3 [.int 0, .null, .null] 3 803,
  i_dup 5,
  i_callV 6 1 5 (ri_Ev l y5_init w5_init r5_init 2 800) 2 800 3 803,
  i_put 7 6 4 ri_isR,
  i_al 8 0,
  i_al 9 1,
  i_put 10 6 0 ri_isR,
  i_al 11 0,
  i_al 12 2,
  i_put 13 6 1 ri_isR,
  i_al 14 0,
  i_al 15 3,
  i_put 16 6 2 ri_isR,
  i_al 17 0,
  i_al 18 4,
  i_put 19 6 3 ri_isR,
  i_vret Po 3 803]
set_option maxRecDepth 20000 in
set_option maxHeartbeats 4000000 in
theorem z6_init (l : Launch) (Po : ri_O) (p : Program) (e : Env) (s : State) (m : MethodId) (args : Array Value) (below : List Frame) (meth : Method) (c : Code) (D : va_G) (ka : Nat → ClassId) (sa : Nat → Nat) (base : Nat) (X : ri_X p s m args c c6_init 5 w6_init "ChoraleSearch$Reach" D ka sa base) (hret : meth.sig.returnType = none) (hlocks : meth.locks = false) (hname : meth.name = "<init>") : ri_clo (ri_W p l e r6_init s m args below meth c D ka sa base 5 (MQ below (ri_Qc D ka sa base Po) args s 3 803 (fun q => base ≤ q)) p6_init) (t6_init l Po) := by
  refine ri_clo_of ?_
  unfold t6_init
  exact ⟨s_aload_n X d6_init_0 rfl rfl,
    s_oi X (List.mem_cons_of_mem _ mgw_236) (List.mem_cons_of_mem _ mgw_22) (List.mem_cons_of_mem _ mgw_23) d6_init_1 rfl,
    s_aload_n X d6_init_4 rfl rfl,
    s_new X (ci := 5) rfl (fun w h => List.mem_cons_of_mem _ (uC_5 w h)) tC_5 oC_5 fC_5 rfl (List.mem_cons_of_mem _ mgw_237) (List.mem_cons_of_mem _ mgw_193) (List.mem_cons_of_mem _ mgw_8) d6_init_5 rfl,
    s_dup X d6_init_8 rfl,
    s_callIN ri_NW_ok X (na := 0) (ci := 5) rfl ⟨ri_cN X 0 mgw_196 (List.mem_cons_of_mem _ mgw_8) (List.mem_of_getElem? (i := 37) rfl) (by decide +kernel) rfl rfl ⟨by decide, by decide⟩, rfl, X.2.2.2.2.1 _ (List.mem_cons_of_mem _ mgw_195)⟩ d6_init_9 rfl,
    s_putF X (ci := 6) (f := 4) rfl (fun w h => List.mem_cons_of_mem _ (uC_6 w h)) (by decide) tC_6 oC_6 nC_6 rfl ri_ok_ref (List.mem_cons_of_mem _ mgw_243) hname rfl d6_init_12 rfl,
    s_aload_n X d6_init_15 rfl rfl,
    s_aload_n X d6_init_16 rfl rfl,
    s_putF X (ci := 6) (f := 0) rfl (fun w h => List.mem_cons_of_mem _ (uC_6 w h)) (by decide) tC_6 oC_6 nC_6 rfl ri_ok_ref (List.mem_cons_of_mem _ mgw_239) hname rfl d6_init_17 rfl,
    s_aload_n X d6_init_20 rfl rfl,
    s_aload_n X d6_init_21 rfl rfl,
    s_putF X (ci := 6) (f := 1) rfl (fun w h => List.mem_cons_of_mem _ (uC_6 w h)) (by decide) tC_6 oC_6 nC_6 rfl ri_ok_ref (List.mem_cons_of_mem _ mgw_240) hname rfl d6_init_22 rfl,
    s_aload_n X d6_init_25 rfl rfl,
    s_aload_n X d6_init_26 rfl rfl,
    s_putF X (ci := 6) (f := 2) rfl (fun w h => List.mem_cons_of_mem _ (uC_6 w h)) (by decide) tC_6 oC_6 nC_6 rfl ri_ok_ref (List.mem_cons_of_mem _ mgw_241) hname rfl d6_init_27 rfl,
    s_aload_n X d6_init_30 rfl rfl,
    s_aload X d6_init_31 rfl,
    s_putF X (ci := 6) (f := 3) rfl (fun w h => List.mem_cons_of_mem _ (uC_6 w h)) (by decide) tC_6 oC_6 nC_6 rfl ri_ok_ref (List.mem_cons_of_mem _ mgw_242) hname rfl d6_init_33 rfl,
    s_vret X hret hlocks d6_init_36, trivial⟩
theorem d4_spoil_0 : decode c4_spoil 0 = .ok (.aload_n 0, 1) := by decide +kernel
theorem d4_spoil_1 : decode c4_spoil 1 = .ok (.iconst 0, 1) := by decide +kernel
theorem d4_spoil_2 : decode c4_spoil 2 = .ok (.putfield 26, 3) := by decide +kernel
theorem d4_spoil_5 : decode c4_spoil 5 = .ok (.return_, 1) := by decide +kernel
def t4_spoil (l : Launch) (Po : ri_O) : List ri_S := [i_al 1 0,
  i_con 2 0,
  i_put 3 4 3 ri_isZ,
  i_vret Po 0 0]
set_option maxRecDepth 20000 in
set_option maxHeartbeats 4000000 in
theorem z4_spoil (l : Launch) (Po : ri_O) (p : Program) (e : Env) (s : State) (m : MethodId) (args : Array Value) (below : List Frame) (meth : Method) (c : Code) (D : va_G) (ka : Nat → ClassId) (sa : Nat → Nat) (base : Nat) (X : ri_X p s m args c c4_spoil 1 w4_spoil "ChoraleSearch$Table" D ka sa base) (hret : meth.sig.returnType = none) (hlocks : meth.locks = false) (hname : meth.name = "spoil") : ri_clo (ri_W p l e r4_spoil s m args below meth c D ka sa base 1 (MQ below (ri_Qc D ka sa base Po) args s 0 0 (fun q => base ≤ q)) p4_spoil) (t4_spoil l Po) := by
  refine ri_clo_of ?_
  unfold t4_spoil
  exact ⟨s_aload_n X d4_spoil_0 rfl rfl,
    s_iconst X d4_spoil_1 rfl rfl,
    s_put X (ci := 4) (f := 3) rfl (fun w h => List.mem_cons_of_mem _ (uC_4 w h)) (by decide) tC_4 oC_4 nC_4 rfl ri_ok_bool (List.mem_cons_of_mem _ mgw_221) d4_spoil_2 rfl,
    s_vret X hret hlocks d4_spoil_5, trivial⟩
theorem d4_prepare_0 : decode c4_prepare 0 = .ok (.aload_n 0, 1) := by decide +kernel
theorem d4_prepare_1 : decode c4_prepare 1 = .ok (.getfield 26, 3) := by decide +kernel
theorem d4_prepare_4 : decode c4_prepare 4 = .ok (.ifCond .eq 4, 3) := by decide +kernel
theorem d4_prepare_7 : decode c4_prepare 7 = .ok (.return_, 1) := by decide +kernel
theorem d4_prepare_8 : decode c4_prepare 8 = .ok (.iconst 0, 1) := by decide +kernel
theorem d4_prepare_9 : decode c4_prepare 9 = .ok (.istore_n 1, 1) := by decide +kernel
theorem d4_prepare_10 : decode c4_prepare 10 = .ok (.iload_n 1, 1) := by decide +kernel
theorem d4_prepare_11 : decode c4_prepare 11 = .ok (.aload_n 0, 1) := by decide +kernel
theorem d4_prepare_12 : decode c4_prepare 12 = .ok (.getfield 17, 3) := by decide +kernel
theorem d4_prepare_15 : decode c4_prepare 15 = .ok (.getfield 30, 3) := by decide +kernel
theorem d4_prepare_18 : decode c4_prepare 18 = .ok (.if_icmp .ge 23, 3) := by decide +kernel
theorem d4_prepare_21 : decode c4_prepare 21 = .ok (.aload_n 0, 1) := by decide +kernel
theorem d4_prepare_22 : decode c4_prepare 22 = .ok (.getfield 21, 3) := by decide +kernel
theorem d4_prepare_25 : decode c4_prepare 25 = .ok (.aload_n 0, 1) := by decide +kernel
theorem d4_prepare_26 : decode c4_prepare 26 = .ok (.getfield 11, 3) := by decide +kernel
theorem d4_prepare_29 : decode c4_prepare 29 = .ok (.iload_n 1, 1) := by decide +kernel
theorem d4_prepare_30 : decode c4_prepare 30 = .ok (.aaload, 1) := by decide +kernel
theorem d4_prepare_31 : decode c4_prepare 31 = .ok (.iload_n 1, 1) := by decide +kernel
theorem d4_prepare_32 : decode c4_prepare 32 = .ok (.invokevirtual 36, 3) := by decide +kernel
theorem d4_prepare_35 : decode c4_prepare 35 = .ok (.iinc 1 1, 3) := by decide +kernel
theorem d4_prepare_38 : decode c4_prepare 38 = .ok (.goto (-28), 3) := by decide +kernel
theorem d4_prepare_41 : decode c4_prepare 41 = .ok (.aload_n 0, 1) := by decide +kernel
theorem d4_prepare_42 : decode c4_prepare 42 = .ok (.iconst 1, 1) := by decide +kernel
theorem d4_prepare_43 : decode c4_prepare 43 = .ok (.putfield 26, 3) := by decide +kernel
theorem d4_prepare_46 : decode c4_prepare 46 = .ok (.return_, 1) := by decide +kernel
def t4_prepare (l : Launch) (Po : ri_O) : List ri_S := [i_al 1 0,
  i_get 2 4 3,
  i_if 3 4 (fun x => x = 0),
  i_vret Po 0 0,
  i_con 5 0,
  i_is 6 1,
  i_il 7 1,
  i_al 8 0,
  i_get 9 4 0,
  i_get 10 0 0,
  i_icmp 11 21 (fun x y => y ≤ x),
  i_al 12 0,
  i_get 13 4 1,
  i_al 14 0,
  i_get 15 4 2,
  i_il 16 1,
  i_aald 17 2,
  i_il 18 1,
  i_callV 19 3 2 (ri_Ev l y2_fill w2_fill r2_fill 0 0) 0 0 0 0,
  i_inc 20 1 1,
  i_goto 6,
  i_al 22 0,
  i_con 23 1,
  i_put 24 4 3 ri_isZ,
  i_vret Po 0 0]
set_option maxRecDepth 20000 in
set_option maxHeartbeats 4000000 in
theorem z4_prepare (l : Launch) (Po : ri_O) (p : Program) (e : Env) (s : State) (m : MethodId) (args : Array Value) (below : List Frame) (meth : Method) (c : Code) (D : va_G) (ka : Nat → ClassId) (sa : Nat → Nat) (base : Nat) (X : ri_X p s m args c c4_prepare 2 w4_prepare "ChoraleSearch$Table" D ka sa base) (hret : meth.sig.returnType = none) (hlocks : meth.locks = false) (hname : meth.name = "prepare") : ri_clo (ri_W p l e r4_prepare s m args below meth c D ka sa base 2 (MQ below (ri_Qc D ka sa base Po) args s 0 0 (fun q => base ≤ q)) p4_prepare) (t4_prepare l Po) := by
  refine ri_clo_of ?_
  unfold t4_prepare
  exact ⟨s_aload_n X d4_prepare_0 rfl rfl,
    s_get X (ci := 4) (f := 3) rfl (fun w h => List.mem_cons_of_mem _ (uC_4 w h)) (by decide) (List.mem_cons_of_mem _ mgw_221) d4_prepare_1 rfl,
    s_if_eq X d4_prepare_4 rfl rfl,
    s_vret X hret hlocks d4_prepare_7,
    s_iconst X d4_prepare_8 rfl rfl,
    s_istore_n X d4_prepare_9 rfl (by decide) rfl,
    s_iload_n X d4_prepare_10 rfl rfl,
    s_aload_n X d4_prepare_11 rfl rfl,
    s_get X (ci := 4) (f := 0) rfl (fun w h => List.mem_cons_of_mem _ (uC_4 w h)) (by decide) (List.mem_cons_of_mem _ mgw_215) d4_prepare_12 rfl,
    s_getN X (ci := 0) (f := 0) rfl (fun w h => List.mem_cons_of_mem _ (uC_0 w h)) (by decide) (List.mem_of_getElem? (i := 2) rfl) d4_prepare_15 rfl,
    s_icmp_ge X d4_prepare_18 rfl rfl,
    s_aload_n X d4_prepare_21 rfl rfl,
    s_get X (ci := 4) (f := 1) rfl (fun w h => List.mem_cons_of_mem _ (uC_4 w h)) (by decide) (List.mem_cons_of_mem _ mgw_216) d4_prepare_22 rfl,
    s_aload_n X d4_prepare_25 rfl rfl,
    s_get X (ci := 4) (f := 2) rfl (fun w h => List.mem_cons_of_mem _ (uC_4 w h)) (by decide) (List.mem_cons_of_mem _ mgw_217) d4_prepare_26 rfl,
    s_iload_n X d4_prepare_29 rfl rfl,
    s_aald X (kd := 2) rfl rfl d4_prepare_30 rfl,
    s_iload_n X d4_prepare_31 rfl rfl,
    s_callVN ri_NW_ok X (na := 2) (ci := 2) rfl ⟨ri_cN X 2 mgw_423 (List.mem_cons_of_mem _ mgw_5) (List.mem_of_getElem? (i := 48) rfl) (by decide +kernel) rfl rfl ⟨by decide, by decide⟩, X.2.2.2.2.1 _ (List.mem_cons_of_mem _ mgw_422), X.2.2.2.2.1 _ (List.mem_cons_of_mem _ mgp_9)⟩ d4_prepare_32 rfl,
    s_iinc X d4_prepare_35 rfl (by decide) rfl,
    s_goto X d4_prepare_38 rfl,
    s_aload_n X d4_prepare_41 rfl rfl,
    s_iconst X d4_prepare_42 rfl rfl,
    s_put X (ci := 4) (f := 3) rfl (fun w h => List.mem_cons_of_mem _ (uC_4 w h)) (by decide) tC_4 oC_4 nC_4 rfl ri_ok_bool (List.mem_cons_of_mem _ mgw_221) d4_prepare_43 rfl,
    s_vret X hret hlocks d4_prepare_46, trivial⟩
theorem d4_overflows_0 : decode c4_overflows 0 = .ok (.iconst 0, 1) := by decide +kernel
theorem d4_overflows_1 : decode c4_overflows 1 = .ok (.istore_n 1, 1) := by decide +kernel
theorem d4_overflows_2 : decode c4_overflows 2 = .ok (.iload_n 1, 1) := by decide +kernel
theorem d4_overflows_3 : decode c4_overflows 3 = .ok (.aload_n 0, 1) := by decide +kernel
theorem d4_overflows_4 : decode c4_overflows 4 = .ok (.getfield 17, 3) := by decide +kernel
theorem d4_overflows_7 : decode c4_overflows 7 = .ok (.getfield 30, 3) := by decide +kernel
theorem d4_overflows_10 : decode c4_overflows 10 = .ok (.if_icmp .ge 26, 3) := by decide +kernel
theorem d4_overflows_13 : decode c4_overflows 13 = .ok (.aload_n 0, 1) := by decide +kernel
theorem d4_overflows_14 : decode c4_overflows 14 = .ok (.getfield 11, 3) := by decide +kernel
theorem d4_overflows_17 : decode c4_overflows 17 = .ok (.iload_n 1, 1) := by decide +kernel
theorem d4_overflows_18 : decode c4_overflows 18 = .ok (.aaload, 1) := by decide +kernel
theorem d4_overflows_19 : decode c4_overflows 19 = .ok (.getfield 42, 3) := by decide +kernel
theorem d4_overflows_22 : decode c4_overflows 22 = .ok (.sipush 400, 3) := by decide +kernel
theorem d4_overflows_25 : decode c4_overflows 25 = .ok (.if_icmp .le 5, 3) := by decide +kernel
theorem d4_overflows_28 : decode c4_overflows 28 = .ok (.iconst 1, 1) := by decide +kernel
theorem d4_overflows_29 : decode c4_overflows 29 = .ok (.ireturn, 1) := by decide +kernel
theorem d4_overflows_30 : decode c4_overflows 30 = .ok (.iinc 1 1, 3) := by decide +kernel
theorem d4_overflows_33 : decode c4_overflows 33 = .ok (.goto (-31), 3) := by decide +kernel
theorem d4_overflows_36 : decode c4_overflows 36 = .ok (.iconst 0, 1) := by decide +kernel
theorem d4_overflows_37 : decode c4_overflows 37 = .ok (.ireturn, 1) := by decide +kernel
def t4_overflows (l : Launch) (Po : ri_O) : List ri_S := [i_con 1 0,
  i_is 2 1,
  i_il 3 1,
  i_al 4 0,
  i_get 5 4 0,
  i_get 6 0 0,
  i_icmp 7 18 (fun x y => y ≤ x),
  i_al 8 0,
  i_get 9 4 2,
  i_il 10 1,
  i_aald 11 2,
  i_get 12 5 0,
  i_con 13 400,
  i_icmp 14 16 (fun x y => x ≤ y),
  i_con 15 1,
  i_zret Po 0 0,
  i_inc 17 1 1,
  i_goto 2,
  i_con 19 0,
  i_zret Po 0 0]
set_option maxRecDepth 20000 in
set_option maxHeartbeats 4000000 in
theorem z4_overflows (l : Launch) (Po : ri_O) (p : Program) (e : Env) (s : State) (m : MethodId) (args : Array Value) (below : List Frame) (meth : Method) (c : Code) (D : va_G) (ka : Nat → ClassId) (sa : Nat → Nat) (base : Nat) (X : ri_X p s m args c c4_overflows 2 w4_overflows "ChoraleSearch$Table" D ka sa base) (hret : meth.sig.returnType = (some .boolean)) (hlocks : meth.locks = false) (hname : meth.name = "overflows") : ri_clo (ri_W p l e r4_overflows s m args below meth c D ka sa base 2 (MQ below (ri_Qc D ka sa base Po) args s 0 0 (fun q => base ≤ q)) p4_overflows) (t4_overflows l Po) := by
  refine ri_clo_of ?_
  unfold t4_overflows
  exact ⟨s_iconst X d4_overflows_0 rfl rfl,
    s_istore_n X d4_overflows_1 rfl (by decide) rfl,
    s_iload_n X d4_overflows_2 rfl rfl,
    s_aload_n X d4_overflows_3 rfl rfl,
    s_get X (ci := 4) (f := 0) rfl (fun w h => List.mem_cons_of_mem _ (uC_4 w h)) (by decide) (List.mem_cons_of_mem _ mgw_215) d4_overflows_4 rfl,
    s_getN X (ci := 0) (f := 0) rfl (fun w h => List.mem_cons_of_mem _ (uC_0 w h)) (by decide) (List.mem_of_getElem? (i := 2) rfl) d4_overflows_7 rfl,
    s_icmp_ge X d4_overflows_10 rfl rfl,
    s_aload_n X d4_overflows_13 rfl rfl,
    s_get X (ci := 4) (f := 2) rfl (fun w h => List.mem_cons_of_mem _ (uC_4 w h)) (by decide) (List.mem_cons_of_mem _ mgw_217) d4_overflows_14 rfl,
    s_iload_n X d4_overflows_17 rfl rfl,
    s_aald X (kd := 2) rfl rfl d4_overflows_18 rfl,
    s_getN X (ci := 5) (f := 0) rfl (fun w h => List.mem_cons_of_mem _ (uC_5 w h)) (by decide) (List.mem_of_getElem? (i := 27) rfl) d4_overflows_19 rfl,
    s_sipush X d4_overflows_22 rfl rfl,
    s_icmp_le X d4_overflows_25 rfl rfl,
    s_iconst X d4_overflows_28 rfl rfl,
    s_zret X hret hlocks d4_overflows_29,
    s_iinc X d4_overflows_30 rfl (by decide) rfl,
    s_goto X d4_overflows_33 rfl,
    s_iconst X d4_overflows_36 rfl rfl,
    s_zret X hret hlocks d4_overflows_37, trivial⟩
theorem d6_firstUnreached_0 : decode c6_firstUnreached 0 = .ok (.bipush (-2), 2) := by decide +kernel
theorem d6_firstUnreached_2 : decode c6_firstUnreached 2 = .ok (.istore_n 1, 1) := by decide +kernel
theorem d6_firstUnreached_3 : decode c6_firstUnreached 3 = .ok (.iconst 0, 1) := by decide +kernel
theorem d6_firstUnreached_4 : decode c6_firstUnreached 4 = .ok (.istore_n 2, 1) := by decide +kernel
theorem d6_firstUnreached_5 : decode c6_firstUnreached 5 = .ok (.iload_n 2, 1) := by decide +kernel
theorem d6_firstUnreached_6 : decode c6_firstUnreached 6 = .ok (.aload_n 0, 1) := by decide +kernel
theorem d6_firstUnreached_7 : decode c6_firstUnreached 7 = .ok (.getfield 18, 3) := by decide +kernel
theorem d6_firstUnreached_10 : decode c6_firstUnreached 10 = .ok (.getfield 34, 3) := by decide +kernel
theorem d6_firstUnreached_13 : decode c6_firstUnreached 13 = .ok (.if_icmp .ge 27, 3) := by decide +kernel
theorem d6_firstUnreached_16 : decode c6_firstUnreached 16 = .ok (.aload_n 0, 1) := by decide +kernel
theorem d6_firstUnreached_17 : decode c6_firstUnreached 17 = .ok (.iload_n 2, 1) := by decide +kernel
theorem d6_firstUnreached_18 : decode c6_firstUnreached 18 = .ok (.invokevirtual 40, 3) := by decide +kernel
theorem d6_firstUnreached_21 : decode c6_firstUnreached 21 = .ok (.istore_n 3, 1) := by decide +kernel
theorem d6_firstUnreached_22 : decode c6_firstUnreached 22 = .ok (.iload_n 3, 1) := by decide +kernel
theorem d6_firstUnreached_23 : decode c6_firstUnreached 23 = .ok (.ifCond .ne 11, 3) := by decide +kernel
theorem d6_firstUnreached_26 : decode c6_firstUnreached 26 = .ok (.iload_n 1, 1) := by decide +kernel
theorem d6_firstUnreached_27 : decode c6_firstUnreached 27 = .ok (.bipush (-2), 2) := by decide +kernel
theorem d6_firstUnreached_29 : decode c6_firstUnreached 29 = .ok (.if_icmp .ne 5, 3) := by decide +kernel
theorem d6_firstUnreached_32 : decode c6_firstUnreached 32 = .ok (.iload_n 2, 1) := by decide +kernel
theorem d6_firstUnreached_33 : decode c6_firstUnreached 33 = .ok (.istore_n 1, 1) := by decide +kernel
theorem d6_firstUnreached_34 : decode c6_firstUnreached 34 = .ok (.iinc 2 1, 3) := by decide +kernel
theorem d6_firstUnreached_37 : decode c6_firstUnreached 37 = .ok (.goto (-32), 3) := by decide +kernel
theorem d6_firstUnreached_40 : decode c6_firstUnreached 40 = .ok (.iload_n 1, 1) := by decide +kernel
theorem d6_firstUnreached_41 : decode c6_firstUnreached 41 = .ok (.ireturn, 1) := by decide +kernel
def t6_firstUnreached (l : Launch) (Po : ri_O) : List ri_S := [i_con 1 (-2),
  i_is 2 1,
  i_con 3 0,
  i_is 4 2,
  i_il 5 2,
  i_al 6 0,
  i_get 7 6 0,
  i_get 8 0 0,
  i_icmp 9 22 (fun x y => y ≤ x),
  i_al 10 0,
  i_il 11 2,
  i_callV 12 2 6 (ri_Ev l y6_markReached w6_markReached r6_markReached 0 0) 0 0 0 0,
  i_is 13 3,
  i_il 14 3,
  i_if 15 20 (fun x => ¬ x = 0),
  i_il 16 1,
  i_con 17 (-2),
  i_icmp 18 20 (fun x y => ¬ x = y),
  i_il 19 2,
  i_is 20 1,
  i_inc 21 2 1,
  i_goto 4,
  i_il 23 1,
  i_ret Po 0 0]
set_option maxRecDepth 20000 in
set_option maxHeartbeats 4000000 in
theorem z6_firstUnreached (l : Launch) (Po : ri_O) (p : Program) (e : Env) (s : State) (m : MethodId) (args : Array Value) (below : List Frame) (meth : Method) (c : Code) (D : va_G) (ka : Nat → ClassId) (sa : Nat → Nat) (base : Nat) (X : ri_X p s m args c c6_firstUnreached 4 w6_firstUnreached "ChoraleSearch$Reach" D ka sa base) (hret : meth.sig.returnType = (some .int)) (hlocks : meth.locks = false) (hname : meth.name = "firstUnreached") : ri_clo (ri_W p l e r6_firstUnreached s m args below meth c D ka sa base 4 (MQ below (ri_Qc D ka sa base Po) args s 0 0 (fun q => base ≤ q)) p6_firstUnreached) (t6_firstUnreached l Po) := by
  refine ri_clo_of ?_
  unfold t6_firstUnreached
  exact ⟨s_bipush X d6_firstUnreached_0 rfl rfl,
    s_istore_n X d6_firstUnreached_2 rfl (by decide) rfl,
    s_iconst X d6_firstUnreached_3 rfl rfl,
    s_istore_n X d6_firstUnreached_4 rfl (by decide) rfl,
    s_iload_n X d6_firstUnreached_5 rfl rfl,
    s_aload_n X d6_firstUnreached_6 rfl rfl,
    s_get X (ci := 6) (f := 0) rfl (fun w h => List.mem_cons_of_mem _ (uC_6 w h)) (by decide) (List.mem_cons_of_mem _ mgw_239) d6_firstUnreached_7 rfl,
    s_getN X (ci := 0) (f := 0) rfl (fun w h => List.mem_cons_of_mem _ (uC_0 w h)) (by decide) (List.mem_of_getElem? (i := 1) rfl) d6_firstUnreached_10 rfl,
    s_icmp_ge X d6_firstUnreached_13 rfl rfl,
    s_aload_n X d6_firstUnreached_16 rfl rfl,
    s_iload_n X d6_firstUnreached_17 rfl rfl,
    s_callV ri_NW_ok X (na := 1) (ci := 6) rfl ⟨ri_cB X 1 mgw_687 (List.mem_cons_of_mem _ mgw_9) (List.mem_cons_of_mem _ mgw_684) (by decide +kernel) rfl rfl ⟨by decide, by decide⟩, X.2.2.2.2.1 _ (List.mem_cons_of_mem _ mgw_686), X.2.2.2.2.1 _ (List.mem_cons_of_mem _ mgp_54)⟩ d6_firstUnreached_18 rfl,
    s_istore_n X d6_firstUnreached_21 rfl (by decide) rfl,
    s_iload_n X d6_firstUnreached_22 rfl rfl,
    s_if_ne X d6_firstUnreached_23 rfl rfl,
    s_iload_n X d6_firstUnreached_26 rfl rfl,
    s_bipush X d6_firstUnreached_27 rfl rfl,
    s_icmp_ne X d6_firstUnreached_29 rfl rfl,
    s_iload_n X d6_firstUnreached_32 rfl rfl,
    s_istore_n X d6_firstUnreached_33 rfl (by decide) rfl,
    s_iinc X d6_firstUnreached_34 rfl (by decide) rfl,
    s_goto X d6_firstUnreached_37 rfl,
    s_iload_n X d6_firstUnreached_40 rfl rfl,
    s_iret X hret hlocks d6_firstUnreached_41, trivial⟩
theorem d6_markReached_0 : decode c6_markReached 0 = .ok (.aload_n 0, 1) := by decide +kernel
theorem d6_markReached_1 : decode c6_markReached 1 = .ok (.getfield 22, 3) := by decide +kernel
theorem d6_markReached_4 : decode c6_markReached 4 = .ok (.getfield 44, 3) := by decide +kernel
theorem d6_markReached_7 : decode c6_markReached 7 = .ok (.iload_n 1, 1) := by decide +kernel
theorem d6_markReached_8 : decode c6_markReached 8 = .ok (.aaload, 1) := by decide +kernel
theorem d6_markReached_9 : decode c6_markReached 9 = .ok (.astore_n 2, 1) := by decide +kernel
theorem d6_markReached_10 : decode c6_markReached 10 = .ok (.iconst 0, 1) := by decide +kernel
theorem d6_markReached_11 : decode c6_markReached 11 = .ok (.istore_n 3, 1) := by decide +kernel
theorem d6_markReached_12 : decode c6_markReached 12 = .ok (.iconst 0, 1) := by decide +kernel
theorem d6_markReached_13 : decode c6_markReached 13 = .ok (.istore 4, 2) := by decide +kernel
theorem d6_markReached_15 : decode c6_markReached 15 = .ok (.iload 4, 2) := by decide +kernel
theorem d6_markReached_17 : decode c6_markReached 17 = .ok (.aload_n 2, 1) := by decide +kernel
theorem d6_markReached_18 : decode c6_markReached 18 = .ok (.invokevirtual 50, 3) := by decide +kernel
theorem d6_markReached_21 : decode c6_markReached 21 = .ok (.if_icmp .ge 45, 3) := by decide +kernel
theorem d6_markReached_24 : decode c6_markReached 24 = .ok (.aload_n 0, 1) := by decide +kernel
theorem d6_markReached_25 : decode c6_markReached 25 = .ok (.iload_n 1, 1) := by decide +kernel
theorem d6_markReached_26 : decode c6_markReached 26 = .ok (.aload_n 2, 1) := by decide +kernel
theorem d6_markReached_27 : decode c6_markReached 27 = .ok (.getfield 54, 3) := by decide +kernel
theorem d6_markReached_30 : decode c6_markReached 30 = .ok (.iload 4, 2) := by decide +kernel
theorem d6_markReached_32 : decode c6_markReached 32 = .ok (.iaload, 1) := by decide +kernel
theorem d6_markReached_33 : decode c6_markReached 33 = .ok (.invokevirtual 58, 3) := by decide +kernel
theorem d6_markReached_36 : decode c6_markReached 36 = .ok (.istore 5, 2) := by decide +kernel
theorem d6_markReached_38 : decode c6_markReached 38 = .ok (.aload_n 2, 1) := by decide +kernel
theorem d6_markReached_39 : decode c6_markReached 39 = .ok (.getfield 62, 3) := by decide +kernel
theorem d6_markReached_42 : decode c6_markReached 42 = .ok (.iload 4, 2) := by decide +kernel
theorem d6_markReached_44 : decode c6_markReached 44 = .ok (.iload 5, 2) := by decide +kernel
theorem d6_markReached_46 : decode c6_markReached 46 = .ok (.ifCond .eq 7, 3) := by decide +kernel
theorem d6_markReached_49 : decode c6_markReached 49 = .ok (.iconst 1, 1) := by decide +kernel
theorem d6_markReached_50 : decode c6_markReached 50 = .ok (.goto 4, 3) := by decide +kernel
theorem d6_markReached_53 : decode c6_markReached 53 = .ok (.iconst 0, 1) := by decide +kernel
theorem d6_markReached_54 : decode c6_markReached 54 = .ok (.iastore, 1) := by decide +kernel
theorem d6_markReached_55 : decode c6_markReached 55 = .ok (.iload_n 3, 1) := by decide +kernel
theorem d6_markReached_56 : decode c6_markReached 56 = .ok (.iload 5, 2) := by decide +kernel
theorem d6_markReached_58 : decode c6_markReached 58 = .ok (.ior, 1) := by decide +kernel
theorem d6_markReached_59 : decode c6_markReached 59 = .ok (.istore_n 3, 1) := by decide +kernel
theorem d6_markReached_60 : decode c6_markReached 60 = .ok (.iinc 4 1, 3) := by decide +kernel
theorem d6_markReached_63 : decode c6_markReached 63 = .ok (.goto (-48), 3) := by decide +kernel
theorem d6_markReached_66 : decode c6_markReached 66 = .ok (.iload_n 3, 1) := by decide +kernel
theorem d6_markReached_67 : decode c6_markReached 67 = .ok (.ireturn, 1) := by decide +kernel
def t6_markReached (l : Launch) (Po : ri_O) : List ri_S := [i_al 1 0,
  i_get 2 6 1,
  i_get 3 4 2,
  i_il 4 1,
  i_aald 5 2,
  i_as 6 2,
  i_con 7 0,
  i_is 8 3,
  i_con 9 0,
  i_is 10 4,
  i_il 11 4,
  i_al 12 2,
  i_callV 13 1 5 (ri_Ev l y5_kept w5_kept r5_kept 0 0) 0 0 0 0,
  i_icmp 14 37 (fun x y => y ≤ x),
  i_al 15 0,
  i_il 16 1,
  i_al 17 2,
  i_get 18 5 1,
  i_il 19 4,
  i_ald 20 0,
  i_callV 21 3 6 (ri_Ev l y6_isEntered w6_isEntered r6_isEntered 0 0) 0 0 0 0,
  i_is 22 5,
  i_al 23 2,
  i_get 24 5 2,
  i_il 25 4,
  i_il 26 5,
  i_if 27 29 (fun x => x = 0),
  i_con 28 1,
  i_goto 30,
  i_con 30 0,
  i_ast 31 0 (fun x => x),
  i_il 32 3,
  i_il 33 5,
  i_bin 34 (fun x y => x ||| y),
  i_is 35 3,
  i_inc 36 4 1,
  i_goto 10,
  i_il 38 3,
  i_zret Po 0 0]
set_option maxRecDepth 20000 in
set_option maxHeartbeats 4000000 in
theorem z6_markReached (l : Launch) (Po : ri_O) (p : Program) (e : Env) (s : State) (m : MethodId) (args : Array Value) (below : List Frame) (meth : Method) (c : Code) (D : va_G) (ka : Nat → ClassId) (sa : Nat → Nat) (base : Nat) (X : ri_X p s m args c c6_markReached 6 w6_markReached "ChoraleSearch$Reach" D ka sa base) (hret : meth.sig.returnType = (some .boolean)) (hlocks : meth.locks = false) (hname : meth.name = "markReached") : ri_clo (ri_W p l e r6_markReached s m args below meth c D ka sa base 6 (MQ below (ri_Qc D ka sa base Po) args s 0 0 (fun q => base ≤ q)) p6_markReached) (t6_markReached l Po) := by
  refine ri_clo_of ?_
  unfold t6_markReached
  exact ⟨s_aload_n X d6_markReached_0 rfl rfl,
    s_get X (ci := 6) (f := 1) rfl (fun w h => List.mem_cons_of_mem _ (uC_6 w h)) (by decide) (List.mem_cons_of_mem _ mgw_240) d6_markReached_1 rfl,
    s_getN X (ci := 4) (f := 2) rfl (fun w h => List.mem_cons_of_mem _ (uC_4 w h)) (by decide) (List.mem_of_getElem? (i := 33) rfl) d6_markReached_4 rfl,
    s_iload_n X d6_markReached_7 rfl rfl,
    s_aald X (kd := 2) rfl rfl d6_markReached_8 rfl,
    s_astore_n X d6_markReached_9 rfl (by decide) rfl,
    s_iconst X d6_markReached_10 rfl rfl,
    s_istore_n X d6_markReached_11 rfl (by decide) rfl,
    s_iconst X d6_markReached_12 rfl rfl,
    s_istore X d6_markReached_13 (by decide) rfl,
    s_iload X d6_markReached_15 rfl,
    s_aload_n X d6_markReached_17 rfl rfl,
    s_callVN ri_NW_ok X (na := 0) (ci := 5) rfl ⟨ri_cN X 0 mgw_520 (List.mem_cons_of_mem _ mgw_8) (List.mem_of_getElem? (i := 83) rfl) (by decide +kernel) rfl rfl ⟨by decide, by decide⟩, X.2.2.2.2.1 _ (List.mem_cons_of_mem _ mgw_519), X.2.2.2.2.1 _ (List.mem_cons_of_mem _ mgp_28)⟩ d6_markReached_18 rfl,
    s_icmp_ge X d6_markReached_21 rfl rfl,
    s_aload_n X d6_markReached_24 rfl rfl,
    s_iload_n X d6_markReached_25 rfl rfl,
    s_aload_n X d6_markReached_26 rfl rfl,
    s_getN X (ci := 5) (f := 1) rfl (fun w h => List.mem_cons_of_mem _ (uC_5 w h)) (by decide) (List.mem_of_getElem? (i := 30) rfl) d6_markReached_27 rfl,
    s_iload X d6_markReached_30 rfl,
    s_iald X rfl d6_markReached_32 rfl,
    s_callV ri_NW_ok X (na := 2) (ci := 6) rfl ⟨ri_cB X 2 mgw_692 (List.mem_cons_of_mem _ mgw_9) (List.mem_cons_of_mem _ mgw_689) (by decide +kernel) rfl rfl ⟨by decide, by decide⟩, X.2.2.2.2.1 _ (List.mem_cons_of_mem _ mgw_691), X.2.2.2.2.1 _ (List.mem_cons_of_mem _ mgp_55)⟩ d6_markReached_33 rfl,
    s_istore X d6_markReached_36 (by decide) rfl,
    s_aload_n X d6_markReached_38 rfl rfl,
    s_getN X (ci := 5) (f := 2) rfl (fun w h => List.mem_cons_of_mem _ (uC_5 w h)) (by decide) (List.mem_of_getElem? (i := 32) rfl) d6_markReached_39 rfl,
    s_iload X d6_markReached_42 rfl,
    s_iload X d6_markReached_44 rfl,
    s_if_eq X d6_markReached_46 rfl rfl,
    s_iconst X d6_markReached_49 rfl rfl,
    s_goto X d6_markReached_50 rfl,
    s_iconst X d6_markReached_53 rfl rfl,
    s_iast X rfl d6_markReached_54 rfl,
    s_iload_n X d6_markReached_55 rfl rfl,
    s_iload X d6_markReached_56 rfl,
    s_ior X d6_markReached_58 rfl,
    s_istore_n X d6_markReached_59 rfl (by decide) rfl,
    s_iinc X d6_markReached_60 rfl (by decide) rfl,
    s_goto X d6_markReached_63 rfl,
    s_iload_n X d6_markReached_66 rfl rfl,
    s_zret X hret hlocks d6_markReached_67, trivial⟩
theorem d6_isEntered_0 : decode c6_isEntered 0 = .ok (.iload_n 1, 1) := by decide +kernel
theorem d6_isEntered_1 : decode c6_isEntered 1 = .ok (.ifCond .ne 5, 3) := by decide +kernel
theorem d6_isEntered_4 : decode c6_isEntered 4 = .ok (.iconst 1, 1) := by decide +kernel
theorem d6_isEntered_5 : decode c6_isEntered 5 = .ok (.ireturn, 1) := by decide +kernel
theorem d6_isEntered_6 : decode c6_isEntered 6 = .ok (.aload_n 0, 1) := by decide +kernel
theorem d6_isEntered_7 : decode c6_isEntered 7 = .ok (.getfield 22, 3) := by decide +kernel
theorem d6_isEntered_10 : decode c6_isEntered 10 = .ok (.getfield 44, 3) := by decide +kernel
theorem d6_isEntered_13 : decode c6_isEntered 13 = .ok (.iload_n 1, 1) := by decide +kernel
theorem d6_isEntered_14 : decode c6_isEntered 14 = .ok (.iconst 1, 1) := by decide +kernel
theorem d6_isEntered_15 : decode c6_isEntered 15 = .ok (.isub, 1) := by decide +kernel
theorem d6_isEntered_16 : decode c6_isEntered 16 = .ok (.aaload, 1) := by decide +kernel
theorem d6_isEntered_17 : decode c6_isEntered 17 = .ok (.astore_n 3, 1) := by decide +kernel
theorem d6_isEntered_18 : decode c6_isEntered 18 = .ok (.iconst 0, 1) := by decide +kernel
theorem d6_isEntered_19 : decode c6_isEntered 19 = .ok (.istore 4, 2) := by decide +kernel
theorem d6_isEntered_21 : decode c6_isEntered 21 = .ok (.iload 4, 2) := by decide +kernel
theorem d6_isEntered_23 : decode c6_isEntered 23 = .ok (.aload_n 3, 1) := by decide +kernel
theorem d6_isEntered_24 : decode c6_isEntered 24 = .ok (.invokevirtual 50, 3) := by decide +kernel
theorem d6_isEntered_27 : decode c6_isEntered 27 = .ok (.if_icmp .ge 39, 3) := by decide +kernel
theorem d6_isEntered_30 : decode c6_isEntered 30 = .ok (.aload_n 3, 1) := by decide +kernel
theorem d6_isEntered_31 : decode c6_isEntered 31 = .ok (.iload 4, 2) := by decide +kernel
theorem d6_isEntered_33 : decode c6_isEntered 33 = .ok (.iconst 1, 1) := by decide +kernel
theorem d6_isEntered_34 : decode c6_isEntered 34 = .ok (.invokevirtual 65, 3) := by decide +kernel
theorem d6_isEntered_37 : decode c6_isEntered 37 = .ok (.ifCond .eq 23, 3) := by decide +kernel
theorem d6_isEntered_40 : decode c6_isEntered 40 = .ok (.aload_n 0, 1) := by decide +kernel
theorem d6_isEntered_41 : decode c6_isEntered 41 = .ok (.getfield 30, 3) := by decide +kernel
theorem d6_isEntered_44 : decode c6_isEntered 44 = .ok (.aload_n 3, 1) := by decide +kernel
theorem d6_isEntered_45 : decode c6_isEntered 45 = .ok (.getfield 54, 3) := by decide +kernel
theorem d6_isEntered_48 : decode c6_isEntered 48 = .ok (.iload 4, 2) := by decide +kernel
theorem d6_isEntered_50 : decode c6_isEntered 50 = .ok (.iaload, 1) := by decide +kernel
theorem d6_isEntered_51 : decode c6_isEntered 51 = .ok (.iload_n 2, 1) := by decide +kernel
theorem d6_isEntered_52 : decode c6_isEntered 52 = .ok (.invokevirtual 68, 3) := by decide +kernel
theorem d6_isEntered_55 : decode c6_isEntered 55 = .ok (.ifCond .eq 5, 3) := by decide +kernel
theorem d6_isEntered_58 : decode c6_isEntered 58 = .ok (.iconst 1, 1) := by decide +kernel
theorem d6_isEntered_59 : decode c6_isEntered 59 = .ok (.ireturn, 1) := by decide +kernel
theorem d6_isEntered_60 : decode c6_isEntered 60 = .ok (.iinc 4 1, 3) := by decide +kernel
theorem d6_isEntered_63 : decode c6_isEntered 63 = .ok (.goto (-42), 3) := by decide +kernel
theorem d6_isEntered_66 : decode c6_isEntered 66 = .ok (.iconst 0, 1) := by decide +kernel
theorem d6_isEntered_67 : decode c6_isEntered 67 = .ok (.ireturn, 1) := by decide +kernel
def t6_isEntered (l : Launch) (Po : ri_O) : List ri_S := [i_il 1 1,
  i_if 2 4 (fun x => ¬ x = 0),
  i_con 3 1,
  i_zret Po 0 0,
  i_al 5 0,
  i_get 6 6 1,
  i_get 7 4 2,
  i_il 8 1,
  i_con 9 1,
  i_bin 10 (fun x y => x - y),
  i_aald 11 2,
  i_as 12 3,
  i_con 13 0,
  i_is 14 4,
  i_il 15 4,
  i_al 16 3,
  i_callV 17 1 5 (ri_Ev l y5_kept w5_kept r5_kept 0 0) 0 0 0 0,
  i_icmp 18 36 (fun x y => y ≤ x),
  i_al 19 3,
  i_il 20 4,
  i_con 21 1,
  i_callV 22 3 5 (ri_Ev l y5_isMarked w5_isMarked r5_isMarked 0 0) 0 0 0 0,
  i_if 23 34 (fun x => x = 0),
  i_al 24 0,
  i_get 25 6 3,
  i_al 26 3,
  i_get 27 5 1,
  i_il 28 4,
  i_ald 29 0,
  i_il 30 2,
  i_callV 31 3 3 (ri_Ev l y3_allow w3_allow r3_allow 0 0) 0 0 0 0,
  i_if 32 34 (fun x => x = 0),
  i_con 33 1,
  i_zret Po 0 0,
  i_inc 35 4 1,
  i_goto 14,
  i_con 37 0,
  i_zret Po 0 0]
set_option maxRecDepth 20000 in
set_option maxHeartbeats 4000000 in
theorem z6_isEntered (l : Launch) (Po : ri_O) (p : Program) (e : Env) (s : State) (m : MethodId) (args : Array Value) (below : List Frame) (meth : Method) (c : Code) (D : va_G) (ka : Nat → ClassId) (sa : Nat → Nat) (base : Nat) (X : ri_X p s m args c c6_isEntered 5 w6_isEntered "ChoraleSearch$Reach" D ka sa base) (hret : meth.sig.returnType = (some .boolean)) (hlocks : meth.locks = false) (hname : meth.name = "isEntered") : ri_clo (ri_W p l e r6_isEntered s m args below meth c D ka sa base 5 (MQ below (ri_Qc D ka sa base Po) args s 0 0 (fun q => base ≤ q)) p6_isEntered) (t6_isEntered l Po) := by
  refine ri_clo_of ?_
  unfold t6_isEntered
  exact ⟨s_iload_n X d6_isEntered_0 rfl rfl,
    s_if_ne X d6_isEntered_1 rfl rfl,
    s_iconst X d6_isEntered_4 rfl rfl,
    s_zret X hret hlocks d6_isEntered_5,
    s_aload_n X d6_isEntered_6 rfl rfl,
    s_get X (ci := 6) (f := 1) rfl (fun w h => List.mem_cons_of_mem _ (uC_6 w h)) (by decide) (List.mem_cons_of_mem _ mgw_240) d6_isEntered_7 rfl,
    s_getN X (ci := 4) (f := 2) rfl (fun w h => List.mem_cons_of_mem _ (uC_4 w h)) (by decide) (List.mem_of_getElem? (i := 33) rfl) d6_isEntered_10 rfl,
    s_iload_n X d6_isEntered_13 rfl rfl,
    s_iconst X d6_isEntered_14 rfl rfl,
    s_isub X d6_isEntered_15 rfl,
    s_aald X (kd := 2) rfl rfl d6_isEntered_16 rfl,
    s_astore_n X d6_isEntered_17 rfl (by decide) rfl,
    s_iconst X d6_isEntered_18 rfl rfl,
    s_istore X d6_isEntered_19 (by decide) rfl,
    s_iload X d6_isEntered_21 rfl,
    s_aload_n X d6_isEntered_23 rfl rfl,
    s_callVN ri_NW_ok X (na := 0) (ci := 5) rfl ⟨ri_cN X 0 mgw_520 (List.mem_cons_of_mem _ mgw_8) (List.mem_of_getElem? (i := 83) rfl) (by decide +kernel) rfl rfl ⟨by decide, by decide⟩, X.2.2.2.2.1 _ (List.mem_cons_of_mem _ mgw_519), X.2.2.2.2.1 _ (List.mem_cons_of_mem _ mgp_28)⟩ d6_isEntered_24 rfl,
    s_icmp_ge X d6_isEntered_27 rfl rfl,
    s_aload_n X d6_isEntered_30 rfl rfl,
    s_iload X d6_isEntered_31 rfl,
    s_iconst X d6_isEntered_33 rfl rfl,
    s_callVN ri_NW_ok X (na := 2) (ci := 5) rfl ⟨ri_cN X 2 mgw_696 (List.mem_cons_of_mem _ mgw_8) (List.mem_of_getElem? (i := 84) rfl) (by decide +kernel) rfl rfl ⟨by decide, by decide⟩, X.2.2.2.2.1 _ (List.mem_cons_of_mem _ mgw_695), X.2.2.2.2.1 _ (List.mem_cons_of_mem _ mgp_56)⟩ d6_isEntered_34 rfl,
    s_if_eq X d6_isEntered_37 rfl rfl,
    s_aload_n X d6_isEntered_40 rfl rfl,
    s_get X (ci := 6) (f := 3) rfl (fun w h => List.mem_cons_of_mem _ (uC_6 w h)) (by decide) (List.mem_cons_of_mem _ mgw_242) d6_isEntered_41 rfl,
    s_aload_n X d6_isEntered_44 rfl rfl,
    s_getN X (ci := 5) (f := 1) rfl (fun w h => List.mem_cons_of_mem _ (uC_5 w h)) (by decide) (List.mem_of_getElem? (i := 30) rfl) d6_isEntered_45 rfl,
    s_iload X d6_isEntered_48 rfl,
    s_iald X rfl d6_isEntered_50 rfl,
    s_iload_n X d6_isEntered_51 rfl rfl,
    s_callVN ri_NW_ok X (na := 2) (ci := 3) rfl ⟨ri_cN X 2 mgw_560 (List.mem_cons_of_mem _ mgw_6) (List.mem_of_getElem? (i := 85) rfl) (by decide +kernel) rfl rfl ⟨by decide, by decide⟩, X.2.2.2.2.1 _ (List.mem_cons_of_mem _ mgw_559), X.2.2.2.2.1 _ (List.mem_cons_of_mem _ mgp_33)⟩ d6_isEntered_52 rfl,
    s_if_eq X d6_isEntered_55 rfl rfl,
    s_iconst X d6_isEntered_58 rfl rfl,
    s_zret X hret hlocks d6_isEntered_59,
    s_iinc X d6_isEntered_60 rfl (by decide) rfl,
    s_goto X d6_isEntered_63 rfl,
    s_iconst X d6_isEntered_66 rfl rfl,
    s_zret X hret hlocks d6_isEntered_67, trivial⟩
theorem d6_barringRules_0 : decode c6_barringRules 0 = .ok (.aload_n 0, 1) := by decide +kernel
theorem d6_barringRules_1 : decode c6_barringRules 1 = .ok (.getfield 22, 3) := by decide +kernel
theorem d6_barringRules_4 : decode c6_barringRules 4 = .ok (.getfield 44, 3) := by decide +kernel
theorem d6_barringRules_7 : decode c6_barringRules 7 = .ok (.iload_n 1, 1) := by decide +kernel
theorem d6_barringRules_8 : decode c6_barringRules 8 = .ok (.aaload, 1) := by decide +kernel
theorem d6_barringRules_9 : decode c6_barringRules 9 = .ok (.astore_n 2, 1) := by decide +kernel
theorem d6_barringRules_10 : decode c6_barringRules 10 = .ok (.aload_n 2, 1) := by decide +kernel
theorem d6_barringRules_11 : decode c6_barringRules 11 = .ok (.getfield 79, 3) := by decide +kernel
theorem d6_barringRules_14 : decode c6_barringRules 14 = .ok (.ifCond .eq 7, 3) := by decide +kernel
theorem d6_barringRules_17 : decode c6_barringRules 17 = .ok (.iload_n 1, 1) := by decide +kernel
theorem d6_barringRules_18 : decode c6_barringRules 18 = .ok (.ifCond .ne 12, 3) := by decide +kernel
theorem d6_barringRules_21 : decode c6_barringRules 21 = .ok (.aload_n 0, 1) := by decide +kernel
theorem d6_barringRules_22 : decode c6_barringRules 22 = .ok (.getfield 26, 3) := by decide +kernel
theorem d6_barringRules_25 : decode c6_barringRules 25 = .ok (.iload_n 1, 1) := by decide +kernel
theorem d6_barringRules_26 : decode c6_barringRules 26 = .ok (.invokevirtual 82, 3) := by decide +kernel
theorem d6_barringRules_29 : decode c6_barringRules 29 = .ok (.ireturn, 1) := by decide +kernel
theorem d6_barringRules_30 : decode c6_barringRules 30 = .ok (.aload_n 0, 1) := by decide +kernel
theorem d6_barringRules_31 : decode c6_barringRules 31 = .ok (.getfield 22, 3) := by decide +kernel
theorem d6_barringRules_34 : decode c6_barringRules 34 = .ok (.getfield 44, 3) := by decide +kernel
theorem d6_barringRules_37 : decode c6_barringRules 37 = .ok (.iload_n 1, 1) := by decide +kernel
theorem d6_barringRules_38 : decode c6_barringRules 38 = .ok (.iconst 1, 1) := by decide +kernel
theorem d6_barringRules_39 : decode c6_barringRules 39 = .ok (.isub, 1) := by decide +kernel
theorem d6_barringRules_40 : decode c6_barringRules 40 = .ok (.aaload, 1) := by decide +kernel
theorem d6_barringRules_41 : decode c6_barringRules 41 = .ok (.astore_n 3, 1) := by decide +kernel
theorem d6_barringRules_42 : decode c6_barringRules 42 = .ok (.iconst 0, 1) := by decide +kernel
theorem d6_barringRules_43 : decode c6_barringRules 43 = .ok (.istore 4, 2) := by decide +kernel
theorem d6_barringRules_45 : decode c6_barringRules 45 = .ok (.iconst 0, 1) := by decide +kernel
theorem d6_barringRules_46 : decode c6_barringRules 46 = .ok (.istore 5, 2) := by decide +kernel
theorem d6_barringRules_48 : decode c6_barringRules 48 = .ok (.iload 5, 2) := by decide +kernel
theorem d6_barringRules_50 : decode c6_barringRules 50 = .ok (.aload_n 3, 1) := by decide +kernel
theorem d6_barringRules_51 : decode c6_barringRules 51 = .ok (.invokevirtual 50, 3) := by decide +kernel
theorem d6_barringRules_54 : decode c6_barringRules 54 = .ok (.if_icmp .ge 44, 3) := by decide +kernel
theorem d6_barringRules_57 : decode c6_barringRules 57 = .ok (.iload 4, 2) := by decide +kernel
theorem d6_barringRules_59 : decode c6_barringRules 59 = .ok (.sipush 8064, 3) := by decide +kernel
theorem d6_barringRules_62 : decode c6_barringRules 62 = .ok (.if_icmp .eq 36, 3) := by decide +kernel
theorem d6_barringRules_65 : decode c6_barringRules 65 = .ok (.aload_n 3, 1) := by decide +kernel
theorem d6_barringRules_66 : decode c6_barringRules 66 = .ok (.iload 5, 2) := by decide +kernel
theorem d6_barringRules_68 : decode c6_barringRules 68 = .ok (.iconst 1, 1) := by decide +kernel
theorem d6_barringRules_69 : decode c6_barringRules 69 = .ok (.invokevirtual 65, 3) := by decide +kernel
theorem d6_barringRules_72 : decode c6_barringRules 72 = .ok (.ifCond .eq 20, 3) := by decide +kernel
theorem d6_barringRules_75 : decode c6_barringRules 75 = .ok (.iload 4, 2) := by decide +kernel
theorem d6_barringRules_77 : decode c6_barringRules 77 = .ok (.aload_n 0, 1) := by decide +kernel
theorem d6_barringRules_78 : decode c6_barringRules 78 = .ok (.aload_n 3, 1) := by decide +kernel
theorem d6_barringRules_79 : decode c6_barringRules 79 = .ok (.getfield 54, 3) := by decide +kernel
theorem d6_barringRules_82 : decode c6_barringRules 82 = .ok (.iload 5, 2) := by decide +kernel
theorem d6_barringRules_84 : decode c6_barringRules 84 = .ok (.iaload, 1) := by decide +kernel
theorem d6_barringRules_85 : decode c6_barringRules 85 = .ok (.aload_n 2, 1) := by decide +kernel
theorem d6_barringRules_86 : decode c6_barringRules 86 = .ok (.invokevirtual 88, 3) := by decide +kernel
theorem d6_barringRules_89 : decode c6_barringRules 89 = .ok (.ior, 1) := by decide +kernel
theorem d6_barringRules_90 : decode c6_barringRules 90 = .ok (.istore 4, 2) := by decide +kernel
theorem d6_barringRules_92 : decode c6_barringRules 92 = .ok (.iinc 5 1, 3) := by decide +kernel
theorem d6_barringRules_95 : decode c6_barringRules 95 = .ok (.goto (-47), 3) := by decide +kernel
theorem d6_barringRules_98 : decode c6_barringRules 98 = .ok (.iload 4, 2) := by decide +kernel
theorem d6_barringRules_100 : decode c6_barringRules 100 = .ok (.ireturn, 1) := by decide +kernel
def t6_barringRules (l : Launch) (Po : ri_O) : List ri_S := [i_al 1 0,
  i_get 2 6 1,
  i_get 3 4 2,
  i_il 4 1,
  i_aald 5 2,
  i_as 6 2,
  i_al 7 2,
  i_get 8 5 0,
  i_if 9 11 (fun x => x = 0),
  i_il 10 1,
  i_if 11 16 (fun x => ¬ x = 0),
  i_al 12 0,
  i_get 13 6 2,
  i_il 14 1,
  i_callV 15 2 2 (ri_Ev l y2_barring w2_barring r2_barring 0 0) 0 0 0 0,
  i_ret Po 0 0,
  i_al 17 0,
  i_get 18 6 1,
  i_get 19 4 2,
  i_il 20 1,
  i_con 21 1,
  i_bin 22 (fun x y => x - y),
  i_aald 23 2,
  i_as 24 3,
  i_con 25 0,
  i_is 26 4,
  i_con 27 0,
  i_is 28 5,
  i_il 29 5,
  i_al 30 3,
  i_callV 31 1 5 (ri_Ev l y5_kept w5_kept r5_kept 0 0) 0 0 0 0,
  i_icmp 32 52 (fun x y => y ≤ x),
  i_il 33 4,
  i_con 34 8064,
  i_icmp 35 52 (fun x y => x = y),
  i_al 36 3,
  i_il 37 5,
  i_con 38 1,
  i_callV 39 3 5 (ri_Ev l y5_isMarked w5_isMarked r5_isMarked 0 0) 0 0 0 0,
  i_if 40 50 (fun x => x = 0),
  i_il 41 4,
  i_al 42 0,
  i_al 43 3,
  i_get 44 5 1,
  i_il 45 5,
  i_ald 46 0,
  i_al 47 2,
  i_callV 48 3 6 (ri_Ev l y6_barringSteps w6_barringSteps r6_barringSteps 0 0) 0 0 0 0,
  i_bin 49 (fun x y => x ||| y),
  i_is 50 4,
  i_inc 51 5 1,
  i_goto 28,
  i_il 53 4,
  i_ret Po 0 0]
set_option maxRecDepth 20000 in
set_option maxHeartbeats 4000000 in
theorem z6_barringRules (l : Launch) (Po : ri_O) (p : Program) (e : Env) (s : State) (m : MethodId) (args : Array Value) (below : List Frame) (meth : Method) (c : Code) (D : va_G) (ka : Nat → ClassId) (sa : Nat → Nat) (base : Nat) (X : ri_X p s m args c c6_barringRules 6 w6_barringRules "ChoraleSearch$Reach" D ka sa base) (hret : meth.sig.returnType = (some .int)) (hlocks : meth.locks = false) (hname : meth.name = "barringRules") : ri_clo (ri_W p l e r6_barringRules s m args below meth c D ka sa base 6 (MQ below (ri_Qc D ka sa base Po) args s 0 0 (fun q => base ≤ q)) p6_barringRules) (t6_barringRules l Po) := by
  refine ri_clo_of ?_
  unfold t6_barringRules
  exact ⟨s_aload_n X d6_barringRules_0 rfl rfl,
    s_get X (ci := 6) (f := 1) rfl (fun w h => List.mem_cons_of_mem _ (uC_6 w h)) (by decide) (List.mem_cons_of_mem _ mgw_240) d6_barringRules_1 rfl,
    s_getN X (ci := 4) (f := 2) rfl (fun w h => List.mem_cons_of_mem _ (uC_4 w h)) (by decide) (List.mem_of_getElem? (i := 33) rfl) d6_barringRules_4 rfl,
    s_iload_n X d6_barringRules_7 rfl rfl,
    s_aald X (kd := 2) rfl rfl d6_barringRules_8 rfl,
    s_astore_n X d6_barringRules_9 rfl (by decide) rfl,
    s_aload_n X d6_barringRules_10 rfl rfl,
    s_getN X (ci := 5) (f := 0) rfl (fun w h => List.mem_cons_of_mem _ (uC_5 w h)) (by decide) (List.mem_of_getElem? (i := 28) rfl) d6_barringRules_11 rfl,
    s_if_eq X d6_barringRules_14 rfl rfl,
    s_iload_n X d6_barringRules_17 rfl rfl,
    s_if_ne X d6_barringRules_18 rfl rfl,
    s_aload_n X d6_barringRules_21 rfl rfl,
    s_get X (ci := 6) (f := 2) rfl (fun w h => List.mem_cons_of_mem _ (uC_6 w h)) (by decide) (List.mem_cons_of_mem _ mgw_241) d6_barringRules_22 rfl,
    s_iload_n X d6_barringRules_25 rfl rfl,
    s_callVN ri_NW_ok X (na := 1) (ci := 2) rfl ⟨ri_cN X 1 mgw_705 (List.mem_cons_of_mem _ mgw_5) (List.mem_of_getElem? (i := 87) rfl) (by decide +kernel) rfl rfl ⟨by decide, by decide⟩, X.2.2.2.2.1 _ (List.mem_cons_of_mem _ mgw_704), X.2.2.2.2.1 _ (List.mem_cons_of_mem _ mgp_58)⟩ d6_barringRules_26 rfl,
    s_iret X hret hlocks d6_barringRules_29,
    s_aload_n X d6_barringRules_30 rfl rfl,
    s_get X (ci := 6) (f := 1) rfl (fun w h => List.mem_cons_of_mem _ (uC_6 w h)) (by decide) (List.mem_cons_of_mem _ mgw_240) d6_barringRules_31 rfl,
    s_getN X (ci := 4) (f := 2) rfl (fun w h => List.mem_cons_of_mem _ (uC_4 w h)) (by decide) (List.mem_of_getElem? (i := 33) rfl) d6_barringRules_34 rfl,
    s_iload_n X d6_barringRules_37 rfl rfl,
    s_iconst X d6_barringRules_38 rfl rfl,
    s_isub X d6_barringRules_39 rfl,
    s_aald X (kd := 2) rfl rfl d6_barringRules_40 rfl,
    s_astore_n X d6_barringRules_41 rfl (by decide) rfl,
    s_iconst X d6_barringRules_42 rfl rfl,
    s_istore X d6_barringRules_43 (by decide) rfl,
    s_iconst X d6_barringRules_45 rfl rfl,
    s_istore X d6_barringRules_46 (by decide) rfl,
    s_iload X d6_barringRules_48 rfl,
    s_aload_n X d6_barringRules_50 rfl rfl,
    s_callVN ri_NW_ok X (na := 0) (ci := 5) rfl ⟨ri_cN X 0 mgw_520 (List.mem_cons_of_mem _ mgw_8) (List.mem_of_getElem? (i := 83) rfl) (by decide +kernel) rfl rfl ⟨by decide, by decide⟩, X.2.2.2.2.1 _ (List.mem_cons_of_mem _ mgw_519), X.2.2.2.2.1 _ (List.mem_cons_of_mem _ mgp_28)⟩ d6_barringRules_51 rfl,
    s_icmp_ge X d6_barringRules_54 rfl rfl,
    s_iload X d6_barringRules_57 rfl,
    s_sipush X d6_barringRules_59 rfl rfl,
    s_icmp_eq X d6_barringRules_62 rfl rfl,
    s_aload_n X d6_barringRules_65 rfl rfl,
    s_iload X d6_barringRules_66 rfl,
    s_iconst X d6_barringRules_68 rfl rfl,
    s_callVN ri_NW_ok X (na := 2) (ci := 5) rfl ⟨ri_cN X 2 mgw_696 (List.mem_cons_of_mem _ mgw_8) (List.mem_of_getElem? (i := 84) rfl) (by decide +kernel) rfl rfl ⟨by decide, by decide⟩, X.2.2.2.2.1 _ (List.mem_cons_of_mem _ mgw_695), X.2.2.2.2.1 _ (List.mem_cons_of_mem _ mgp_56)⟩ d6_barringRules_69 rfl,
    s_if_eq X d6_barringRules_72 rfl rfl,
    s_iload X d6_barringRules_75 rfl,
    s_aload_n X d6_barringRules_77 rfl rfl,
    s_aload_n X d6_barringRules_78 rfl rfl,
    s_getN X (ci := 5) (f := 1) rfl (fun w h => List.mem_cons_of_mem _ (uC_5 w h)) (by decide) (List.mem_of_getElem? (i := 30) rfl) d6_barringRules_79 rfl,
    s_iload X d6_barringRules_82 rfl,
    s_iald X rfl d6_barringRules_84 rfl,
    s_aload_n X d6_barringRules_85 rfl rfl,
    s_callV ri_NW_ok X (na := 2) (ci := 6) rfl ⟨ri_cB X 2 mgw_749 (List.mem_cons_of_mem _ mgw_9) (List.mem_cons_of_mem _ mgw_746) (by decide +kernel) rfl rfl ⟨by decide, by decide⟩, X.2.2.2.2.1 _ (List.mem_cons_of_mem _ mgw_748), X.2.2.2.2.1 _ (List.mem_cons_of_mem _ mgp_69)⟩ d6_barringRules_86 rfl,
    s_ior X d6_barringRules_89 rfl,
    s_istore X d6_barringRules_90 (by decide) rfl,
    s_iinc X d6_barringRules_92 rfl (by decide) rfl,
    s_goto X d6_barringRules_95 rfl,
    s_iload X d6_barringRules_98 rfl,
    s_iret X hret hlocks d6_barringRules_100, trivial⟩
theorem d6_barringSteps_0 : decode c6_barringSteps 0 = .ok (.iconst 0, 1) := by decide +kernel
theorem d6_barringSteps_1 : decode c6_barringSteps 1 = .ok (.istore_n 3, 1) := by decide +kernel
theorem d6_barringSteps_2 : decode c6_barringSteps 2 = .ok (.iconst 0, 1) := by decide +kernel
theorem d6_barringSteps_3 : decode c6_barringSteps 3 = .ok (.istore 4, 2) := by decide +kernel
theorem d6_barringSteps_5 : decode c6_barringSteps 5 = .ok (.iload 4, 2) := by decide +kernel
theorem d6_barringSteps_7 : decode c6_barringSteps 7 = .ok (.aload_n 2, 1) := by decide +kernel
theorem d6_barringSteps_8 : decode c6_barringSteps 8 = .ok (.invokevirtual 50, 3) := by decide +kernel
theorem d6_barringSteps_11 : decode c6_barringSteps 11 = .ok (.if_icmp .ge 34, 3) := by decide +kernel
theorem d6_barringSteps_14 : decode c6_barringSteps 14 = .ok (.iload_n 3, 1) := by decide +kernel
theorem d6_barringSteps_15 : decode c6_barringSteps 15 = .ok (.sipush 8064, 3) := by decide +kernel
theorem d6_barringSteps_18 : decode c6_barringSteps 18 = .ok (.if_icmp .eq 27, 3) := by decide +kernel
theorem d6_barringSteps_21 : decode c6_barringSteps 21 = .ok (.iload_n 3, 1) := by decide +kernel
theorem d6_barringSteps_22 : decode c6_barringSteps 22 = .ok (.aload_n 0, 1) := by decide +kernel
theorem d6_barringSteps_23 : decode c6_barringSteps 23 = .ok (.getfield 30, 3) := by decide +kernel
theorem d6_barringSteps_26 : decode c6_barringSteps 26 = .ok (.iload_n 1, 1) := by decide +kernel
theorem d6_barringSteps_27 : decode c6_barringSteps 27 = .ok (.aload_n 2, 1) := by decide +kernel
theorem d6_barringSteps_28 : decode c6_barringSteps 28 = .ok (.getfield 54, 3) := by decide +kernel
theorem d6_barringSteps_31 : decode c6_barringSteps 31 = .ok (.iload 4, 2) := by decide +kernel
theorem d6_barringSteps_33 : decode c6_barringSteps 33 = .ok (.iaload, 1) := by decide +kernel
theorem d6_barringSteps_34 : decode c6_barringSteps 34 = .ok (.invokevirtual 92, 3) := by decide +kernel
theorem d6_barringSteps_37 : decode c6_barringSteps 37 = .ok (.ior, 1) := by decide +kernel
theorem d6_barringSteps_38 : decode c6_barringSteps 38 = .ok (.istore_n 3, 1) := by decide +kernel
theorem d6_barringSteps_39 : decode c6_barringSteps 39 = .ok (.iinc 4 1, 3) := by decide +kernel
theorem d6_barringSteps_42 : decode c6_barringSteps 42 = .ok (.goto (-37), 3) := by decide +kernel
theorem d6_barringSteps_45 : decode c6_barringSteps 45 = .ok (.iload_n 3, 1) := by decide +kernel
theorem d6_barringSteps_46 : decode c6_barringSteps 46 = .ok (.ireturn, 1) := by decide +kernel
def t6_barringSteps (l : Launch) (Po : ri_O) : List ri_S := [i_con 1 0,
  i_is 2 3,
  i_con 3 0,
  i_is 4 4,
  i_il 5 4,
  i_al 6 2,
  i_callV 7 1 5 (ri_Ev l y5_kept w5_kept r5_kept 0 0) 0 0 0 0,
  i_icmp 8 24 (fun x y => y ≤ x),
  i_il 9 3,
  i_con 10 8064,
  i_icmp 11 24 (fun x y => x = y),
  i_il 12 3,
  i_al 13 0,
  i_get 14 6 3,
  i_il 15 1,
  i_al 16 2,
  i_get 17 5 1,
  i_il 18 4,
  i_ald 19 0,
  i_callV 20 3 3 (ri_Ev l y3_barring w3_barring r3_barring 0 0) 0 0 0 0,
  i_bin 21 (fun x y => x ||| y),
  i_is 22 3,
  i_inc 23 4 1,
  i_goto 4,
  i_il 25 3,
  i_ret Po 0 0]
set_option maxRecDepth 20000 in
set_option maxHeartbeats 4000000 in
theorem z6_barringSteps (l : Launch) (Po : ri_O) (p : Program) (e : Env) (s : State) (m : MethodId) (args : Array Value) (below : List Frame) (meth : Method) (c : Code) (D : va_G) (ka : Nat → ClassId) (sa : Nat → Nat) (base : Nat) (X : ri_X p s m args c c6_barringSteps 5 w6_barringSteps "ChoraleSearch$Reach" D ka sa base) (hret : meth.sig.returnType = (some .int)) (hlocks : meth.locks = false) (hname : meth.name = "barringSteps") : ri_clo (ri_W p l e r6_barringSteps s m args below meth c D ka sa base 5 (MQ below (ri_Qc D ka sa base Po) args s 0 0 (fun q => base ≤ q)) p6_barringSteps) (t6_barringSteps l Po) := by
  refine ri_clo_of ?_
  unfold t6_barringSteps
  exact ⟨s_iconst X d6_barringSteps_0 rfl rfl,
    s_istore_n X d6_barringSteps_1 rfl (by decide) rfl,
    s_iconst X d6_barringSteps_2 rfl rfl,
    s_istore X d6_barringSteps_3 (by decide) rfl,
    s_iload X d6_barringSteps_5 rfl,
    s_aload_n X d6_barringSteps_7 rfl rfl,
    s_callVN ri_NW_ok X (na := 0) (ci := 5) rfl ⟨ri_cN X 0 mgw_520 (List.mem_cons_of_mem _ mgw_8) (List.mem_of_getElem? (i := 83) rfl) (by decide +kernel) rfl rfl ⟨by decide, by decide⟩, X.2.2.2.2.1 _ (List.mem_cons_of_mem _ mgw_519), X.2.2.2.2.1 _ (List.mem_cons_of_mem _ mgp_28)⟩ d6_barringSteps_8 rfl,
    s_icmp_ge X d6_barringSteps_11 rfl rfl,
    s_iload_n X d6_barringSteps_14 rfl rfl,
    s_sipush X d6_barringSteps_15 rfl rfl,
    s_icmp_eq X d6_barringSteps_18 rfl rfl,
    s_iload_n X d6_barringSteps_21 rfl rfl,
    s_aload_n X d6_barringSteps_22 rfl rfl,
    s_get X (ci := 6) (f := 3) rfl (fun w h => List.mem_cons_of_mem _ (uC_6 w h)) (by decide) (List.mem_cons_of_mem _ mgw_242) d6_barringSteps_23 rfl,
    s_iload_n X d6_barringSteps_26 rfl rfl,
    s_aload_n X d6_barringSteps_27 rfl rfl,
    s_getN X (ci := 5) (f := 1) rfl (fun w h => List.mem_cons_of_mem _ (uC_5 w h)) (by decide) (List.mem_of_getElem? (i := 30) rfl) d6_barringSteps_28 rfl,
    s_iload X d6_barringSteps_31 rfl,
    s_iald X rfl d6_barringSteps_33 rfl,
    s_callVN ri_NW_ok X (na := 2) (ci := 3) rfl ⟨ri_cN X 2 mgw_753 (List.mem_cons_of_mem _ mgw_6) (List.mem_of_getElem? (i := 88) rfl) (by decide +kernel) rfl rfl ⟨by decide, by decide⟩, X.2.2.2.2.1 _ (List.mem_cons_of_mem _ mgw_752), X.2.2.2.2.1 _ (List.mem_cons_of_mem _ mgp_70)⟩ d6_barringSteps_34 rfl,
    s_ior X d6_barringSteps_37 rfl,
    s_istore_n X d6_barringSteps_38 rfl (by decide) rfl,
    s_iinc X d6_barringSteps_39 rfl (by decide) rfl,
    s_goto X d6_barringSteps_42 rfl,
    s_iload_n X d6_barringSteps_45 rfl rfl,
    s_iret X hret hlocks d6_barringSteps_46, trivial⟩
theorem d6_noteToGiveWay_0 : decode c6_noteToGiveWay 0 = .ok (.aload_n 0, 1) := by decide +kernel
theorem d6_noteToGiveWay_1 : decode c6_noteToGiveWay 1 = .ok (.invokevirtual 95, 3) := by decide +kernel
theorem d6_noteToGiveWay_4 : decode c6_noteToGiveWay 4 = .ok (.iconst 0, 1) := by decide +kernel
theorem d6_noteToGiveWay_5 : decode c6_noteToGiveWay 5 = .ok (.istore_n 1, 1) := by decide +kernel
theorem d6_noteToGiveWay_6 : decode c6_noteToGiveWay 6 = .ok (.iload_n 1, 1) := by decide +kernel
theorem d6_noteToGiveWay_7 : decode c6_noteToGiveWay 7 = .ok (.aload_n 0, 1) := by decide +kernel
theorem d6_noteToGiveWay_8 : decode c6_noteToGiveWay 8 = .ok (.getfield 18, 3) := by decide +kernel
theorem d6_noteToGiveWay_11 : decode c6_noteToGiveWay 11 = .ok (.getfield 34, 3) := by decide +kernel
theorem d6_noteToGiveWay_14 : decode c6_noteToGiveWay 14 = .ok (.iconst 4, 1) := by decide +kernel
theorem d6_noteToGiveWay_15 : decode c6_noteToGiveWay 15 = .ok (.imul, 1) := by decide +kernel
theorem d6_noteToGiveWay_16 : decode c6_noteToGiveWay 16 = .ok (.if_icmp .ge 91, 3) := by decide +kernel
theorem d6_noteToGiveWay_19 : decode c6_noteToGiveWay 19 = .ok (.aload_n 0, 1) := by decide +kernel
theorem d6_noteToGiveWay_20 : decode c6_noteToGiveWay 20 = .ok (.getfield 18, 3) := by decide +kernel
theorem d6_noteToGiveWay_23 : decode c6_noteToGiveWay 23 = .ok (.getfield 98, 3) := by decide +kernel
theorem d6_noteToGiveWay_26 : decode c6_noteToGiveWay 26 = .ok (.iload_n 1, 1) := by decide +kernel
theorem d6_noteToGiveWay_27 : decode c6_noteToGiveWay 27 = .ok (.iaload, 1) := by decide +kernel
theorem d6_noteToGiveWay_28 : decode c6_noteToGiveWay 28 = .ok (.istore_n 2, 1) := by decide +kernel
theorem d6_noteToGiveWay_29 : decode c6_noteToGiveWay 29 = .ok (.iload_n 2, 1) := by decide +kernel
theorem d6_noteToGiveWay_30 : decode c6_noteToGiveWay 30 = .ok (.bipush (-2), 2) := by decide +kernel
theorem d6_noteToGiveWay_32 : decode c6_noteToGiveWay 32 = .ok (.if_icmp .ne 6, 3) := by decide +kernel
theorem d6_noteToGiveWay_35 : decode c6_noteToGiveWay 35 = .ok (.goto 66, 3) := by decide +kernel
theorem d6_noteToGiveWay_38 : decode c6_noteToGiveWay 38 = .ok (.iload_n 1, 1) := by decide +kernel
theorem d6_noteToGiveWay_39 : decode c6_noteToGiveWay 39 = .ok (.iconst 4, 1) := by decide +kernel
theorem d6_noteToGiveWay_40 : decode c6_noteToGiveWay 40 = .ok (.idiv, 1) := by decide +kernel
theorem d6_noteToGiveWay_41 : decode c6_noteToGiveWay 41 = .ok (.istore_n 3, 1) := by decide +kernel
theorem d6_noteToGiveWay_42 : decode c6_noteToGiveWay 42 = .ok (.aload_n 0, 1) := by decide +kernel
theorem d6_noteToGiveWay_43 : decode c6_noteToGiveWay 43 = .ok (.getfield 18, 3) := by decide +kernel
theorem d6_noteToGiveWay_46 : decode c6_noteToGiveWay 46 = .ok (.getfield 98, 3) := by decide +kernel
theorem d6_noteToGiveWay_49 : decode c6_noteToGiveWay 49 = .ok (.iload_n 1, 1) := by decide +kernel
theorem d6_noteToGiveWay_50 : decode c6_noteToGiveWay 50 = .ok (.bipush (-2), 2) := by decide +kernel
theorem d6_noteToGiveWay_52 : decode c6_noteToGiveWay 52 = .ok (.iastore, 1) := by decide +kernel
theorem d6_noteToGiveWay_53 : decode c6_noteToGiveWay 53 = .ok (.aload_n 0, 1) := by decide +kernel
theorem d6_noteToGiveWay_54 : decode c6_noteToGiveWay 54 = .ok (.getfield 26, 3) := by decide +kernel
theorem d6_noteToGiveWay_57 : decode c6_noteToGiveWay 57 = .ok (.aload_n 0, 1) := by decide +kernel
theorem d6_noteToGiveWay_58 : decode c6_noteToGiveWay 58 = .ok (.getfield 12, 3) := by decide +kernel
theorem d6_noteToGiveWay_61 : decode c6_noteToGiveWay 61 = .ok (.iload_n 3, 1) := by decide +kernel
theorem d6_noteToGiveWay_62 : decode c6_noteToGiveWay 62 = .ok (.invokevirtual 101, 3) := by decide +kernel
theorem d6_noteToGiveWay_65 : decode c6_noteToGiveWay 65 = .ok (.aload_n 0, 1) := by decide +kernel
theorem d6_noteToGiveWay_66 : decode c6_noteToGiveWay 66 = .ok (.getfield 18, 3) := by decide +kernel
theorem d6_noteToGiveWay_69 : decode c6_noteToGiveWay 69 = .ok (.getfield 98, 3) := by decide +kernel
theorem d6_noteToGiveWay_72 : decode c6_noteToGiveWay 72 = .ok (.iload_n 1, 1) := by decide +kernel
theorem d6_noteToGiveWay_73 : decode c6_noteToGiveWay 73 = .ok (.iload_n 2, 1) := by decide +kernel
theorem d6_noteToGiveWay_74 : decode c6_noteToGiveWay 74 = .ok (.iastore, 1) := by decide +kernel
theorem d6_noteToGiveWay_75 : decode c6_noteToGiveWay 75 = .ok (.aload_n 0, 1) := by decide +kernel
theorem d6_noteToGiveWay_76 : decode c6_noteToGiveWay 76 = .ok (.getfield 12, 3) := by decide +kernel
theorem d6_noteToGiveWay_79 : decode c6_noteToGiveWay 79 = .ok (.getfield 79, 3) := by decide +kernel
theorem d6_noteToGiveWay_82 : decode c6_noteToGiveWay 82 = .ok (.sipush 400, 3) := by decide +kernel
theorem d6_noteToGiveWay_85 : decode c6_noteToGiveWay 85 = .ok (.if_icmp .le 6, 3) := by decide +kernel
theorem d6_noteToGiveWay_88 : decode c6_noteToGiveWay 88 = .ok (.bipush (-3), 2) := by decide +kernel
theorem d6_noteToGiveWay_90 : decode c6_noteToGiveWay 90 = .ok (.ireturn, 1) := by decide +kernel
theorem d6_noteToGiveWay_91 : decode c6_noteToGiveWay 91 = .ok (.aload_n 0, 1) := by decide +kernel
theorem d6_noteToGiveWay_92 : decode c6_noteToGiveWay 92 = .ok (.iload_n 3, 1) := by decide +kernel
theorem d6_noteToGiveWay_93 : decode c6_noteToGiveWay 93 = .ok (.invokevirtual 105, 3) := by decide +kernel
theorem d6_noteToGiveWay_96 : decode c6_noteToGiveWay 96 = .ok (.ifCond .eq 5, 3) := by decide +kernel
theorem d6_noteToGiveWay_99 : decode c6_noteToGiveWay 99 = .ok (.iload_n 1, 1) := by decide +kernel
theorem d6_noteToGiveWay_100 : decode c6_noteToGiveWay 100 = .ok (.ireturn, 1) := by decide +kernel
theorem d6_noteToGiveWay_101 : decode c6_noteToGiveWay 101 = .ok (.iinc 1 1, 3) := by decide +kernel
theorem d6_noteToGiveWay_104 : decode c6_noteToGiveWay 104 = .ok (.goto (-98), 3) := by decide +kernel
theorem d6_noteToGiveWay_107 : decode c6_noteToGiveWay 107 = .ok (.bipush (-2), 2) := by decide +kernel
theorem d6_noteToGiveWay_109 : decode c6_noteToGiveWay 109 = .ok (.ireturn, 1) := by decide +kernel
def t6_noteToGiveWay (l : Launch) (Po : ri_O) : List ri_S := [i_al 1 0,
  i_callV 2 1 6 (ri_Ev l y6_markGoingOn w6_markGoingOn r6_markGoingOn 0 0) 0 0 0 0,
  i_con 3 0,
  i_is 4 1,
  i_il 5 1,
  i_al 6 0,
  i_get 7 6 0,
  i_get 8 0 0,
  i_con 9 4,
  i_bin 10 (fun x y => x * y),
  i_icmp 11 58 (fun x y => y ≤ x),
  i_al 12 0,
  i_get 13 6 0,
  i_get 14 0 2,
  i_il 15 1,
  i_ald 16 0,
  i_is 17 2,
  i_il 18 2,
  i_con 19 (-2),
  i_icmp 20 21 (fun x y => ¬ x = y),
  i_goto 56,
  i_il 22 1,
  i_con 23 4,
  i_div 24 (fun x y => x / y),
  i_is 25 3,
  i_al 26 0,
  i_get 27 6 0,
  i_get 28 0 2,
  i_il 29 1,
  i_con 30 (-2),
  i_ast 31 0 (fun x => x),
  i_al 32 0,
  i_get 33 6 2,
  i_al 34 0,
  i_get 35 6 4,
  i_il 36 3,
  i_callV 37 3 2 (ri_Ev l y2_fill w2_fill r2_fill 0 0) 0 0 0 0,
  i_al 38 0,
  i_get 39 6 0,
  i_get 40 0 2,
  i_il 41 1,
  i_il 42 2,
  i_ast 43 0 (fun x => x),
  i_al 44 0,
  i_get 45 6 4,
  i_get 46 5 0,
  i_con 47 400,
  i_icmp 48 50 (fun x y => x ≤ y),
  i_con 49 (-3),
  i_ret Po 0 0,
  i_al 51 0,
  i_il 52 3,
  i_callV 53 2 6 (ri_Ev l y6_trialJoins w6_trialJoins r6_trialJoins 0 0) 0 0 0 0,
  i_if 54 56 (fun x => x = 0),
  i_il 55 1,
  i_ret Po 0 0,
  i_inc 57 1 1,
  i_goto 4,
  i_con 59 (-2),
  i_ret Po 0 0]
set_option maxRecDepth 20000 in
set_option maxHeartbeats 4000000 in
theorem z6_noteToGiveWay (l : Launch) (Po : ri_O) (p : Program) (e : Env) (s : State) (m : MethodId) (args : Array Value) (below : List Frame) (meth : Method) (c : Code) (D : va_G) (ka : Nat → ClassId) (sa : Nat → Nat) (base : Nat) (X : ri_X p s m args c c6_noteToGiveWay 4 w6_noteToGiveWay "ChoraleSearch$Reach" D ka sa base) (hret : meth.sig.returnType = (some .int)) (hlocks : meth.locks = false) (hname : meth.name = "noteToGiveWay") : ri_clo (ri_W p l e r6_noteToGiveWay s m args below meth c D ka sa base 4 (MQ below (ri_Qc D ka sa base Po) args s 0 0 (fun q => base ≤ q)) p6_noteToGiveWay) (t6_noteToGiveWay l Po) := by
  refine ri_clo_of ?_
  unfold t6_noteToGiveWay
  exact ⟨s_aload_n X d6_noteToGiveWay_0 rfl rfl,
    s_callV ri_NW_ok X (na := 0) (ci := 6) rfl ⟨ri_cB X 0 mgw_765 (List.mem_cons_of_mem _ mgw_9) (List.mem_cons_of_mem _ mgw_762) (by decide +kernel) rfl rfl ⟨by decide, by decide⟩, X.2.2.2.2.1 _ (List.mem_cons_of_mem _ mgw_764), X.2.2.2.2.1 _ (List.mem_cons_of_mem _ mgp_72)⟩ d6_noteToGiveWay_1 rfl,
    s_iconst X d6_noteToGiveWay_4 rfl rfl,
    s_istore_n X d6_noteToGiveWay_5 rfl (by decide) rfl,
    s_iload_n X d6_noteToGiveWay_6 rfl rfl,
    s_aload_n X d6_noteToGiveWay_7 rfl rfl,
    s_get X (ci := 6) (f := 0) rfl (fun w h => List.mem_cons_of_mem _ (uC_6 w h)) (by decide) (List.mem_cons_of_mem _ mgw_239) d6_noteToGiveWay_8 rfl,
    s_getN X (ci := 0) (f := 0) rfl (fun w h => List.mem_cons_of_mem _ (uC_0 w h)) (by decide) (List.mem_of_getElem? (i := 1) rfl) d6_noteToGiveWay_11 rfl,
    s_iconst X d6_noteToGiveWay_14 rfl rfl,
    s_imul X d6_noteToGiveWay_15 rfl,
    s_icmp_ge X d6_noteToGiveWay_16 rfl rfl,
    s_aload_n X d6_noteToGiveWay_19 rfl rfl,
    s_get X (ci := 6) (f := 0) rfl (fun w h => List.mem_cons_of_mem _ (uC_6 w h)) (by decide) (List.mem_cons_of_mem _ mgw_239) d6_noteToGiveWay_20 rfl,
    s_getN X (ci := 0) (f := 2) rfl (fun w h => List.mem_cons_of_mem _ (uC_0 w h)) (by decide) (List.mem_of_getElem? (i := 6) rfl) d6_noteToGiveWay_23 rfl,
    s_iload_n X d6_noteToGiveWay_26 rfl rfl,
    s_iald X rfl d6_noteToGiveWay_27 rfl,
    s_istore_n X d6_noteToGiveWay_28 rfl (by decide) rfl,
    s_iload_n X d6_noteToGiveWay_29 rfl rfl,
    s_bipush X d6_noteToGiveWay_30 rfl rfl,
    s_icmp_ne X d6_noteToGiveWay_32 rfl rfl,
    s_goto X d6_noteToGiveWay_35 rfl,
    s_iload_n X d6_noteToGiveWay_38 rfl rfl,
    s_iconst X d6_noteToGiveWay_39 rfl rfl,
    s_idiv X d6_noteToGiveWay_40 rfl,
    s_istore_n X d6_noteToGiveWay_41 rfl (by decide) rfl,
    s_aload_n X d6_noteToGiveWay_42 rfl rfl,
    s_get X (ci := 6) (f := 0) rfl (fun w h => List.mem_cons_of_mem _ (uC_6 w h)) (by decide) (List.mem_cons_of_mem _ mgw_239) d6_noteToGiveWay_43 rfl,
    s_getN X (ci := 0) (f := 2) rfl (fun w h => List.mem_cons_of_mem _ (uC_0 w h)) (by decide) (List.mem_of_getElem? (i := 6) rfl) d6_noteToGiveWay_46 rfl,
    s_iload_n X d6_noteToGiveWay_49 rfl rfl,
    s_bipush X d6_noteToGiveWay_50 rfl rfl,
    s_iast X rfl d6_noteToGiveWay_52 rfl,
    s_aload_n X d6_noteToGiveWay_53 rfl rfl,
    s_get X (ci := 6) (f := 2) rfl (fun w h => List.mem_cons_of_mem _ (uC_6 w h)) (by decide) (List.mem_cons_of_mem _ mgw_241) d6_noteToGiveWay_54 rfl,
    s_aload_n X d6_noteToGiveWay_57 rfl rfl,
    s_get X (ci := 6) (f := 4) rfl (fun w h => List.mem_cons_of_mem _ (uC_6 w h)) (by decide) (List.mem_cons_of_mem _ mgw_243) d6_noteToGiveWay_58 rfl,
    s_iload_n X d6_noteToGiveWay_61 rfl rfl,
    s_callVN ri_NW_ok X (na := 2) (ci := 2) rfl ⟨ri_cN X 2 mgw_423 (List.mem_cons_of_mem _ mgw_5) (List.mem_of_getElem? (i := 91) rfl) (by decide +kernel) rfl rfl ⟨by decide, by decide⟩, X.2.2.2.2.1 _ (List.mem_cons_of_mem _ mgw_422), X.2.2.2.2.1 _ (List.mem_cons_of_mem _ mgp_9)⟩ d6_noteToGiveWay_62 rfl,
    s_aload_n X d6_noteToGiveWay_65 rfl rfl,
    s_get X (ci := 6) (f := 0) rfl (fun w h => List.mem_cons_of_mem _ (uC_6 w h)) (by decide) (List.mem_cons_of_mem _ mgw_239) d6_noteToGiveWay_66 rfl,
    s_getN X (ci := 0) (f := 2) rfl (fun w h => List.mem_cons_of_mem _ (uC_0 w h)) (by decide) (List.mem_of_getElem? (i := 6) rfl) d6_noteToGiveWay_69 rfl,
    s_iload_n X d6_noteToGiveWay_72 rfl rfl,
    s_iload_n X d6_noteToGiveWay_73 rfl rfl,
    s_iast X rfl d6_noteToGiveWay_74 rfl,
    s_aload_n X d6_noteToGiveWay_75 rfl rfl,
    s_get X (ci := 6) (f := 4) rfl (fun w h => List.mem_cons_of_mem _ (uC_6 w h)) (by decide) (List.mem_cons_of_mem _ mgw_243) d6_noteToGiveWay_76 rfl,
    s_getN X (ci := 5) (f := 0) rfl (fun w h => List.mem_cons_of_mem _ (uC_5 w h)) (by decide) (List.mem_of_getElem? (i := 28) rfl) d6_noteToGiveWay_79 rfl,
    s_sipush X d6_noteToGiveWay_82 rfl rfl,
    s_icmp_le X d6_noteToGiveWay_85 rfl rfl,
    s_bipush X d6_noteToGiveWay_88 rfl rfl,
    s_iret X hret hlocks d6_noteToGiveWay_90,
    s_aload_n X d6_noteToGiveWay_91 rfl rfl,
    s_iload_n X d6_noteToGiveWay_92 rfl rfl,
    s_callV ri_NW_ok X (na := 1) (ci := 6) rfl ⟨ri_cB X 1 mgw_775 (List.mem_cons_of_mem _ mgw_9) (List.mem_cons_of_mem _ mgw_772) (by decide +kernel) rfl rfl ⟨by decide, by decide⟩, X.2.2.2.2.1 _ (List.mem_cons_of_mem _ mgw_774), X.2.2.2.2.1 _ (List.mem_cons_of_mem _ mgp_74)⟩ d6_noteToGiveWay_93 rfl,
    s_if_eq X d6_noteToGiveWay_96 rfl rfl,
    s_iload_n X d6_noteToGiveWay_99 rfl rfl,
    s_iret X hret hlocks d6_noteToGiveWay_100,
    s_iinc X d6_noteToGiveWay_101 rfl (by decide) rfl,
    s_goto X d6_noteToGiveWay_104 rfl,
    s_bipush X d6_noteToGiveWay_107 rfl rfl,
    s_iret X hret hlocks d6_noteToGiveWay_109, trivial⟩
theorem d6_markGoingOn_0 : decode c6_markGoingOn 0 = .ok (.aload_n 0, 1) := by decide +kernel
theorem d6_markGoingOn_1 : decode c6_markGoingOn 1 = .ok (.getfield 18, 3) := by decide +kernel
theorem d6_markGoingOn_4 : decode c6_markGoingOn 4 = .ok (.getfield 34, 3) := by decide +kernel
theorem d6_markGoingOn_7 : decode c6_markGoingOn 7 = .ok (.iconst 1, 1) := by decide +kernel
theorem d6_markGoingOn_8 : decode c6_markGoingOn 8 = .ok (.isub, 1) := by decide +kernel
theorem d6_markGoingOn_9 : decode c6_markGoingOn 9 = .ok (.istore_n 1, 1) := by decide +kernel
theorem d6_markGoingOn_10 : decode c6_markGoingOn 10 = .ok (.iload_n 1, 1) := by decide +kernel
theorem d6_markGoingOn_11 : decode c6_markGoingOn 11 = .ok (.ifCond .lt 59, 3) := by decide +kernel
theorem d6_markGoingOn_14 : decode c6_markGoingOn 14 = .ok (.aload_n 0, 1) := by decide +kernel
theorem d6_markGoingOn_15 : decode c6_markGoingOn 15 = .ok (.getfield 22, 3) := by decide +kernel
theorem d6_markGoingOn_18 : decode c6_markGoingOn 18 = .ok (.getfield 44, 3) := by decide +kernel
theorem d6_markGoingOn_21 : decode c6_markGoingOn 21 = .ok (.iload_n 1, 1) := by decide +kernel
theorem d6_markGoingOn_22 : decode c6_markGoingOn 22 = .ok (.aaload, 1) := by decide +kernel
theorem d6_markGoingOn_23 : decode c6_markGoingOn 23 = .ok (.astore_n 2, 1) := by decide +kernel
theorem d6_markGoingOn_24 : decode c6_markGoingOn 24 = .ok (.iconst 0, 1) := by decide +kernel
theorem d6_markGoingOn_25 : decode c6_markGoingOn 25 = .ok (.istore_n 3, 1) := by decide +kernel
theorem d6_markGoingOn_26 : decode c6_markGoingOn 26 = .ok (.iload_n 3, 1) := by decide +kernel
theorem d6_markGoingOn_27 : decode c6_markGoingOn 27 = .ok (.aload_n 2, 1) := by decide +kernel
theorem d6_markGoingOn_28 : decode c6_markGoingOn 28 = .ok (.invokevirtual 50, 3) := by decide +kernel
theorem d6_markGoingOn_31 : decode c6_markGoingOn 31 = .ok (.if_icmp .ge 33, 3) := by decide +kernel
theorem d6_markGoingOn_34 : decode c6_markGoingOn 34 = .ok (.aload_n 0, 1) := by decide +kernel
theorem d6_markGoingOn_35 : decode c6_markGoingOn 35 = .ok (.iload_n 1, 1) := by decide +kernel
theorem d6_markGoingOn_36 : decode c6_markGoingOn 36 = .ok (.aload_n 2, 1) := by decide +kernel
theorem d6_markGoingOn_37 : decode c6_markGoingOn 37 = .ok (.getfield 54, 3) := by decide +kernel
theorem d6_markGoingOn_40 : decode c6_markGoingOn 40 = .ok (.iload_n 3, 1) := by decide +kernel
theorem d6_markGoingOn_41 : decode c6_markGoingOn 41 = .ok (.iaload, 1) := by decide +kernel
theorem d6_markGoingOn_42 : decode c6_markGoingOn 42 = .ok (.invokevirtual 73, 3) := by decide +kernel
theorem d6_markGoingOn_45 : decode c6_markGoingOn 45 = .ok (.ifCond .eq 13, 3) := by decide +kernel
theorem d6_markGoingOn_48 : decode c6_markGoingOn 48 = .ok (.aload_n 2, 1) := by decide +kernel
theorem d6_markGoingOn_49 : decode c6_markGoingOn 49 = .ok (.getfield 62, 3) := by decide +kernel
theorem d6_markGoingOn_52 : decode c6_markGoingOn 52 = .ok (.iload_n 3, 1) := by decide +kernel
theorem d6_markGoingOn_53 : decode c6_markGoingOn 53 = .ok (.dup2, 1) := by decide +kernel
theorem d6_markGoingOn_54 : decode c6_markGoingOn 54 = .ok (.iaload, 1) := by decide +kernel
theorem d6_markGoingOn_55 : decode c6_markGoingOn 55 = .ok (.iconst 2, 1) := by decide +kernel
theorem d6_markGoingOn_56 : decode c6_markGoingOn 56 = .ok (.ior, 1) := by decide +kernel
theorem d6_markGoingOn_57 : decode c6_markGoingOn 57 = .ok (.iastore, 1) := by decide +kernel
theorem d6_markGoingOn_58 : decode c6_markGoingOn 58 = .ok (.iinc 3 1, 3) := by decide +kernel
theorem d6_markGoingOn_61 : decode c6_markGoingOn 61 = .ok (.goto (-35), 3) := by decide +kernel
theorem d6_markGoingOn_64 : decode c6_markGoingOn 64 = .ok (.iinc 1 (-1), 3) := by decide +kernel
theorem d6_markGoingOn_67 : decode c6_markGoingOn 67 = .ok (.goto (-57), 3) := by decide +kernel
theorem d6_markGoingOn_70 : decode c6_markGoingOn 70 = .ok (.return_, 1) := by decide +kernel
def t6_markGoingOn (l : Launch) (Po : ri_O) : List ri_S := [i_al 1 0,
  i_get 2 6 0,
  i_get 3 0 0,
  i_con 4 1,
  i_bin 5 (fun x y => x - y),
  i_is 6 1,
  i_il 7 1,
  i_if 8 40 (fun x => x < 0),
  i_al 9 0,
  i_get 10 6 1,
  i_get 11 4 2,
  i_il 12 1,
  i_aald 13 2,
  i_as 14 2,
  i_con 15 0,
  i_is 16 3,
  i_il 17 3,
  i_al 18 2,
  i_callV 19 1 5 (ri_Ev l y5_kept w5_kept r5_kept 0 0) 0 0 0 0,
  i_icmp 20 38 (fun x y => y ≤ x),
  i_al 21 0,
  i_il 22 1,
  i_al 23 2,
  i_get 24 5 1,
  i_il 25 3,
  i_ald 26 0,
  i_callV 27 3 6 (ri_Ev l y6_goesOn w6_goesOn r6_goesOn 0 0) 0 0 0 0,
  i_if 28 36 (fun x => x = 0),
  i_al 29 2,
  i_get 30 5 2,
  i_il 31 3,
  i_dup2 32,
  i_ald 33 0,
  i_con 34 2,
  i_bin 35 (fun x y => x ||| y),
  i_ast 36 0 (fun x => x),
  i_inc 37 3 1,
  i_goto 16,
  i_inc 39 1 (-1),
  i_goto 6,
  i_vret Po 0 0]
set_option maxRecDepth 20000 in
set_option maxHeartbeats 4000000 in
theorem z6_markGoingOn (l : Launch) (Po : ri_O) (p : Program) (e : Env) (s : State) (m : MethodId) (args : Array Value) (below : List Frame) (meth : Method) (c : Code) (D : va_G) (ka : Nat → ClassId) (sa : Nat → Nat) (base : Nat) (X : ri_X p s m args c c6_markGoingOn 4 w6_markGoingOn "ChoraleSearch$Reach" D ka sa base) (hret : meth.sig.returnType = none) (hlocks : meth.locks = false) (hname : meth.name = "markGoingOn") : ri_clo (ri_W p l e r6_markGoingOn s m args below meth c D ka sa base 4 (MQ below (ri_Qc D ka sa base Po) args s 0 0 (fun q => base ≤ q)) p6_markGoingOn) (t6_markGoingOn l Po) := by
  refine ri_clo_of ?_
  unfold t6_markGoingOn
  exact ⟨s_aload_n X d6_markGoingOn_0 rfl rfl,
    s_get X (ci := 6) (f := 0) rfl (fun w h => List.mem_cons_of_mem _ (uC_6 w h)) (by decide) (List.mem_cons_of_mem _ mgw_239) d6_markGoingOn_1 rfl,
    s_getN X (ci := 0) (f := 0) rfl (fun w h => List.mem_cons_of_mem _ (uC_0 w h)) (by decide) (List.mem_of_getElem? (i := 1) rfl) d6_markGoingOn_4 rfl,
    s_iconst X d6_markGoingOn_7 rfl rfl,
    s_isub X d6_markGoingOn_8 rfl,
    s_istore_n X d6_markGoingOn_9 rfl (by decide) rfl,
    s_iload_n X d6_markGoingOn_10 rfl rfl,
    s_if_lt X d6_markGoingOn_11 rfl rfl,
    s_aload_n X d6_markGoingOn_14 rfl rfl,
    s_get X (ci := 6) (f := 1) rfl (fun w h => List.mem_cons_of_mem _ (uC_6 w h)) (by decide) (List.mem_cons_of_mem _ mgw_240) d6_markGoingOn_15 rfl,
    s_getN X (ci := 4) (f := 2) rfl (fun w h => List.mem_cons_of_mem _ (uC_4 w h)) (by decide) (List.mem_of_getElem? (i := 33) rfl) d6_markGoingOn_18 rfl,
    s_iload_n X d6_markGoingOn_21 rfl rfl,
    s_aald X (kd := 2) rfl rfl d6_markGoingOn_22 rfl,
    s_astore_n X d6_markGoingOn_23 rfl (by decide) rfl,
    s_iconst X d6_markGoingOn_24 rfl rfl,
    s_istore_n X d6_markGoingOn_25 rfl (by decide) rfl,
    s_iload_n X d6_markGoingOn_26 rfl rfl,
    s_aload_n X d6_markGoingOn_27 rfl rfl,
    s_callVN ri_NW_ok X (na := 0) (ci := 5) rfl ⟨ri_cN X 0 mgw_520 (List.mem_cons_of_mem _ mgw_8) (List.mem_of_getElem? (i := 83) rfl) (by decide +kernel) rfl rfl ⟨by decide, by decide⟩, X.2.2.2.2.1 _ (List.mem_cons_of_mem _ mgw_519), X.2.2.2.2.1 _ (List.mem_cons_of_mem _ mgp_28)⟩ d6_markGoingOn_28 rfl,
    s_icmp_ge X d6_markGoingOn_31 rfl rfl,
    s_aload_n X d6_markGoingOn_34 rfl rfl,
    s_iload_n X d6_markGoingOn_35 rfl rfl,
    s_aload_n X d6_markGoingOn_36 rfl rfl,
    s_getN X (ci := 5) (f := 1) rfl (fun w h => List.mem_cons_of_mem _ (uC_5 w h)) (by decide) (List.mem_of_getElem? (i := 30) rfl) d6_markGoingOn_37 rfl,
    s_iload_n X d6_markGoingOn_40 rfl rfl,
    s_iald X rfl d6_markGoingOn_41 rfl,
    s_callV ri_NW_ok X (na := 2) (ci := 6) rfl ⟨ri_cB X 2 mgw_769 (List.mem_cons_of_mem _ mgw_9) (List.mem_cons_of_mem _ mgw_766) (by decide +kernel) rfl rfl ⟨by decide, by decide⟩, X.2.2.2.2.1 _ (List.mem_cons_of_mem _ mgw_768), X.2.2.2.2.1 _ (List.mem_cons_of_mem _ mgp_73)⟩ d6_markGoingOn_42 rfl,
    s_if_eq X d6_markGoingOn_45 rfl rfl,
    s_aload_n X d6_markGoingOn_48 rfl rfl,
    s_getN X (ci := 5) (f := 2) rfl (fun w h => List.mem_cons_of_mem _ (uC_5 w h)) (by decide) (List.mem_of_getElem? (i := 32) rfl) d6_markGoingOn_49 rfl,
    s_iload_n X d6_markGoingOn_52 rfl rfl,
    s_dup2 X d6_markGoingOn_53 rfl,
    s_iald X rfl d6_markGoingOn_54 rfl,
    s_iconst X d6_markGoingOn_55 rfl rfl,
    s_ior X d6_markGoingOn_56 rfl,
    s_iast X rfl d6_markGoingOn_57 rfl,
    s_iinc X d6_markGoingOn_58 rfl (by decide) rfl,
    s_goto X d6_markGoingOn_61 rfl,
    s_iinc X d6_markGoingOn_64 rfl (by decide) rfl,
    s_goto X d6_markGoingOn_67 rfl,
    s_vret X hret hlocks d6_markGoingOn_70, trivial⟩
theorem d6_goesOn_0 : decode c6_goesOn 0 = .ok (.aload_n 0, 1) := by decide +kernel
theorem d6_goesOn_1 : decode c6_goesOn 1 = .ok (.getfield 18, 3) := by decide +kernel
theorem d6_goesOn_4 : decode c6_goesOn 4 = .ok (.iload_n 1, 1) := by decide +kernel
theorem d6_goesOn_5 : decode c6_goesOn 5 = .ok (.invokevirtual 76, 3) := by decide +kernel
theorem d6_goesOn_8 : decode c6_goesOn 8 = .ok (.ifCond .eq 5, 3) := by decide +kernel
theorem d6_goesOn_11 : decode c6_goesOn 11 = .ok (.iconst 1, 1) := by decide +kernel
theorem d6_goesOn_12 : decode c6_goesOn 12 = .ok (.ireturn, 1) := by decide +kernel
theorem d6_goesOn_13 : decode c6_goesOn 13 = .ok (.aload_n 0, 1) := by decide +kernel
theorem d6_goesOn_14 : decode c6_goesOn 14 = .ok (.getfield 22, 3) := by decide +kernel
theorem d6_goesOn_17 : decode c6_goesOn 17 = .ok (.getfield 44, 3) := by decide +kernel
theorem d6_goesOn_20 : decode c6_goesOn 20 = .ok (.iload_n 1, 1) := by decide +kernel
theorem d6_goesOn_21 : decode c6_goesOn 21 = .ok (.iconst 1, 1) := by decide +kernel
theorem d6_goesOn_22 : decode c6_goesOn 22 = .ok (.iadd, 1) := by decide +kernel
theorem d6_goesOn_23 : decode c6_goesOn 23 = .ok (.aaload, 1) := by decide +kernel
theorem d6_goesOn_24 : decode c6_goesOn 24 = .ok (.astore_n 3, 1) := by decide +kernel
theorem d6_goesOn_25 : decode c6_goesOn 25 = .ok (.iconst 0, 1) := by decide +kernel
theorem d6_goesOn_26 : decode c6_goesOn 26 = .ok (.istore 4, 2) := by decide +kernel
theorem d6_goesOn_28 : decode c6_goesOn 28 = .ok (.iload 4, 2) := by decide +kernel
theorem d6_goesOn_30 : decode c6_goesOn 30 = .ok (.aload_n 3, 1) := by decide +kernel
theorem d6_goesOn_31 : decode c6_goesOn 31 = .ok (.invokevirtual 50, 3) := by decide +kernel
theorem d6_goesOn_34 : decode c6_goesOn 34 = .ok (.if_icmp .ge 39, 3) := by decide +kernel
theorem d6_goesOn_37 : decode c6_goesOn 37 = .ok (.aload_n 3, 1) := by decide +kernel
theorem d6_goesOn_38 : decode c6_goesOn 38 = .ok (.iload 4, 2) := by decide +kernel
theorem d6_goesOn_40 : decode c6_goesOn 40 = .ok (.iconst 2, 1) := by decide +kernel
theorem d6_goesOn_41 : decode c6_goesOn 41 = .ok (.invokevirtual 65, 3) := by decide +kernel
theorem d6_goesOn_44 : decode c6_goesOn 44 = .ok (.ifCond .eq 23, 3) := by decide +kernel
theorem d6_goesOn_47 : decode c6_goesOn 47 = .ok (.aload_n 0, 1) := by decide +kernel
theorem d6_goesOn_48 : decode c6_goesOn 48 = .ok (.getfield 30, 3) := by decide +kernel
theorem d6_goesOn_51 : decode c6_goesOn 51 = .ok (.iload_n 2, 1) := by decide +kernel
theorem d6_goesOn_52 : decode c6_goesOn 52 = .ok (.aload_n 3, 1) := by decide +kernel
theorem d6_goesOn_53 : decode c6_goesOn 53 = .ok (.getfield 54, 3) := by decide +kernel
theorem d6_goesOn_56 : decode c6_goesOn 56 = .ok (.iload 4, 2) := by decide +kernel
theorem d6_goesOn_58 : decode c6_goesOn 58 = .ok (.iaload, 1) := by decide +kernel
theorem d6_goesOn_59 : decode c6_goesOn 59 = .ok (.invokevirtual 68, 3) := by decide +kernel
theorem d6_goesOn_62 : decode c6_goesOn 62 = .ok (.ifCond .eq 5, 3) := by decide +kernel
theorem d6_goesOn_65 : decode c6_goesOn 65 = .ok (.iconst 1, 1) := by decide +kernel
theorem d6_goesOn_66 : decode c6_goesOn 66 = .ok (.ireturn, 1) := by decide +kernel
theorem d6_goesOn_67 : decode c6_goesOn 67 = .ok (.iinc 4 1, 3) := by decide +kernel
theorem d6_goesOn_70 : decode c6_goesOn 70 = .ok (.goto (-42), 3) := by decide +kernel
theorem d6_goesOn_73 : decode c6_goesOn 73 = .ok (.iconst 0, 1) := by decide +kernel
theorem d6_goesOn_74 : decode c6_goesOn 74 = .ok (.ireturn, 1) := by decide +kernel
def t6_goesOn (l : Launch) (Po : ri_O) : List ri_S := [i_al 1 0,
  i_get 2 6 0,
  i_il 3 1,
  i_callV 4 2 0 (ri_Ev l y0_isLast w0_isLast r0_isLast 0 0) 0 0 0 0,
  i_if 5 7 (fun x => x = 0),
  i_con 6 1,
  i_zret Po 0 0,
  i_al 8 0,
  i_get 9 6 1,
  i_get 10 4 2,
  i_il 11 1,
  i_con 12 1,
  i_bin 13 (fun x y => x + y),
  i_aald 14 2,
  i_as 15 3,
  i_con 16 0,
  i_is 17 4,
  i_il 18 4,
  i_al 19 3,
  i_callV 20 1 5 (ri_Ev l y5_kept w5_kept r5_kept 0 0) 0 0 0 0,
  i_icmp 21 39 (fun x y => y ≤ x),
  i_al 22 3,
  i_il 23 4,
  i_con 24 2,
  i_callV 25 3 5 (ri_Ev l y5_isMarked w5_isMarked r5_isMarked 0 0) 0 0 0 0,
  i_if 26 37 (fun x => x = 0),
  i_al 27 0,
  i_get 28 6 3,
  i_il 29 2,
  i_al 30 3,
  i_get 31 5 1,
  i_il 32 4,
  i_ald 33 0,
  i_callV 34 3 3 (ri_Ev l y3_allow w3_allow r3_allow 0 0) 0 0 0 0,
  i_if 35 37 (fun x => x = 0),
  i_con 36 1,
  i_zret Po 0 0,
  i_inc 38 4 1,
  i_goto 17,
  i_con 40 0,
  i_zret Po 0 0]
set_option maxRecDepth 20000 in
set_option maxHeartbeats 4000000 in
theorem z6_goesOn (l : Launch) (Po : ri_O) (p : Program) (e : Env) (s : State) (m : MethodId) (args : Array Value) (below : List Frame) (meth : Method) (c : Code) (D : va_G) (ka : Nat → ClassId) (sa : Nat → Nat) (base : Nat) (X : ri_X p s m args c c6_goesOn 5 w6_goesOn "ChoraleSearch$Reach" D ka sa base) (hret : meth.sig.returnType = (some .boolean)) (hlocks : meth.locks = false) (hname : meth.name = "goesOn") : ri_clo (ri_W p l e r6_goesOn s m args below meth c D ka sa base 5 (MQ below (ri_Qc D ka sa base Po) args s 0 0 (fun q => base ≤ q)) p6_goesOn) (t6_goesOn l Po) := by
  refine ri_clo_of ?_
  unfold t6_goesOn
  exact ⟨s_aload_n X d6_goesOn_0 rfl rfl,
    s_get X (ci := 6) (f := 0) rfl (fun w h => List.mem_cons_of_mem _ (uC_6 w h)) (by decide) (List.mem_cons_of_mem _ mgw_239) d6_goesOn_1 rfl,
    s_iload_n X d6_goesOn_4 rfl rfl,
    s_callVN ri_NW_ok X (na := 1) (ci := 0) rfl ⟨ri_cN X 1 mgw_453 (List.mem_cons_of_mem _ mgw_2) (List.mem_of_getElem? (i := 90) rfl) (by decide +kernel) rfl rfl ⟨by decide, by decide⟩, X.2.2.2.2.1 _ (List.mem_cons_of_mem _ mgw_452), X.2.2.2.2.1 _ (List.mem_cons_of_mem _ mgp_15)⟩ d6_goesOn_5 rfl,
    s_if_eq X d6_goesOn_8 rfl rfl,
    s_iconst X d6_goesOn_11 rfl rfl,
    s_zret X hret hlocks d6_goesOn_12,
    s_aload_n X d6_goesOn_13 rfl rfl,
    s_get X (ci := 6) (f := 1) rfl (fun w h => List.mem_cons_of_mem _ (uC_6 w h)) (by decide) (List.mem_cons_of_mem _ mgw_240) d6_goesOn_14 rfl,
    s_getN X (ci := 4) (f := 2) rfl (fun w h => List.mem_cons_of_mem _ (uC_4 w h)) (by decide) (List.mem_of_getElem? (i := 33) rfl) d6_goesOn_17 rfl,
    s_iload_n X d6_goesOn_20 rfl rfl,
    s_iconst X d6_goesOn_21 rfl rfl,
    s_iadd X d6_goesOn_22 rfl,
    s_aald X (kd := 2) rfl rfl d6_goesOn_23 rfl,
    s_astore_n X d6_goesOn_24 rfl (by decide) rfl,
    s_iconst X d6_goesOn_25 rfl rfl,
    s_istore X d6_goesOn_26 (by decide) rfl,
    s_iload X d6_goesOn_28 rfl,
    s_aload_n X d6_goesOn_30 rfl rfl,
    s_callVN ri_NW_ok X (na := 0) (ci := 5) rfl ⟨ri_cN X 0 mgw_520 (List.mem_cons_of_mem _ mgw_8) (List.mem_of_getElem? (i := 83) rfl) (by decide +kernel) rfl rfl ⟨by decide, by decide⟩, X.2.2.2.2.1 _ (List.mem_cons_of_mem _ mgw_519), X.2.2.2.2.1 _ (List.mem_cons_of_mem _ mgp_28)⟩ d6_goesOn_31 rfl,
    s_icmp_ge X d6_goesOn_34 rfl rfl,
    s_aload_n X d6_goesOn_37 rfl rfl,
    s_iload X d6_goesOn_38 rfl,
    s_iconst X d6_goesOn_40 rfl rfl,
    s_callVN ri_NW_ok X (na := 2) (ci := 5) rfl ⟨ri_cN X 2 mgw_696 (List.mem_cons_of_mem _ mgw_8) (List.mem_of_getElem? (i := 84) rfl) (by decide +kernel) rfl rfl ⟨by decide, by decide⟩, X.2.2.2.2.1 _ (List.mem_cons_of_mem _ mgw_695), X.2.2.2.2.1 _ (List.mem_cons_of_mem _ mgp_56)⟩ d6_goesOn_41 rfl,
    s_if_eq X d6_goesOn_44 rfl rfl,
    s_aload_n X d6_goesOn_47 rfl rfl,
    s_get X (ci := 6) (f := 3) rfl (fun w h => List.mem_cons_of_mem _ (uC_6 w h)) (by decide) (List.mem_cons_of_mem _ mgw_242) d6_goesOn_48 rfl,
    s_iload_n X d6_goesOn_51 rfl rfl,
    s_aload_n X d6_goesOn_52 rfl rfl,
    s_getN X (ci := 5) (f := 1) rfl (fun w h => List.mem_cons_of_mem _ (uC_5 w h)) (by decide) (List.mem_of_getElem? (i := 30) rfl) d6_goesOn_53 rfl,
    s_iload X d6_goesOn_56 rfl,
    s_iald X rfl d6_goesOn_58 rfl,
    s_callVN ri_NW_ok X (na := 2) (ci := 3) rfl ⟨ri_cN X 2 mgw_560 (List.mem_cons_of_mem _ mgw_6) (List.mem_of_getElem? (i := 85) rfl) (by decide +kernel) rfl rfl ⟨by decide, by decide⟩, X.2.2.2.2.1 _ (List.mem_cons_of_mem _ mgw_559), X.2.2.2.2.1 _ (List.mem_cons_of_mem _ mgp_33)⟩ d6_goesOn_59 rfl,
    s_if_eq X d6_goesOn_62 rfl rfl,
    s_iconst X d6_goesOn_65 rfl rfl,
    s_zret X hret hlocks d6_goesOn_66,
    s_iinc X d6_goesOn_67 rfl (by decide) rfl,
    s_goto X d6_goesOn_70 rfl,
    s_iconst X d6_goesOn_73 rfl rfl,
    s_zret X hret hlocks d6_goesOn_74, trivial⟩
theorem d6_trialJoins_0 : decode c6_trialJoins 0 = .ok (.iconst 0, 1) := by decide +kernel
theorem d6_trialJoins_1 : decode c6_trialJoins 1 = .ok (.istore_n 2, 1) := by decide +kernel
theorem d6_trialJoins_2 : decode c6_trialJoins 2 = .ok (.iload_n 2, 1) := by decide +kernel
theorem d6_trialJoins_3 : decode c6_trialJoins 3 = .ok (.aload_n 0, 1) := by decide +kernel
theorem d6_trialJoins_4 : decode c6_trialJoins 4 = .ok (.getfield 12, 3) := by decide +kernel
theorem d6_trialJoins_7 : decode c6_trialJoins 7 = .ok (.invokevirtual 50, 3) := by decide +kernel
theorem d6_trialJoins_10 : decode c6_trialJoins 10 = .ok (.if_icmp .ge 45, 3) := by decide +kernel
theorem d6_trialJoins_13 : decode c6_trialJoins 13 = .ok (.aload_n 0, 1) := by decide +kernel
theorem d6_trialJoins_14 : decode c6_trialJoins 14 = .ok (.iload_n 1, 1) := by decide +kernel
theorem d6_trialJoins_15 : decode c6_trialJoins 15 = .ok (.aload_n 0, 1) := by decide +kernel
theorem d6_trialJoins_16 : decode c6_trialJoins 16 = .ok (.getfield 12, 3) := by decide +kernel
theorem d6_trialJoins_19 : decode c6_trialJoins 19 = .ok (.getfield 54, 3) := by decide +kernel
theorem d6_trialJoins_22 : decode c6_trialJoins 22 = .ok (.iload_n 2, 1) := by decide +kernel
theorem d6_trialJoins_23 : decode c6_trialJoins 23 = .ok (.iaload, 1) := by decide +kernel
theorem d6_trialJoins_24 : decode c6_trialJoins 24 = .ok (.invokevirtual 58, 3) := by decide +kernel
theorem d6_trialJoins_27 : decode c6_trialJoins 27 = .ok (.ifCond .eq 22, 3) := by decide +kernel
theorem d6_trialJoins_30 : decode c6_trialJoins 30 = .ok (.aload_n 0, 1) := by decide +kernel
theorem d6_trialJoins_31 : decode c6_trialJoins 31 = .ok (.iload_n 1, 1) := by decide +kernel
theorem d6_trialJoins_32 : decode c6_trialJoins 32 = .ok (.aload_n 0, 1) := by decide +kernel
theorem d6_trialJoins_33 : decode c6_trialJoins 33 = .ok (.getfield 12, 3) := by decide +kernel
theorem d6_trialJoins_36 : decode c6_trialJoins 36 = .ok (.getfield 54, 3) := by decide +kernel
theorem d6_trialJoins_39 : decode c6_trialJoins 39 = .ok (.iload_n 2, 1) := by decide +kernel
theorem d6_trialJoins_40 : decode c6_trialJoins 40 = .ok (.iaload, 1) := by decide +kernel
theorem d6_trialJoins_41 : decode c6_trialJoins 41 = .ok (.invokevirtual 73, 3) := by decide +kernel
theorem d6_trialJoins_44 : decode c6_trialJoins 44 = .ok (.ifCond .eq 5, 3) := by decide +kernel
theorem d6_trialJoins_47 : decode c6_trialJoins 47 = .ok (.iconst 1, 1) := by decide +kernel
theorem d6_trialJoins_48 : decode c6_trialJoins 48 = .ok (.ireturn, 1) := by decide +kernel
theorem d6_trialJoins_49 : decode c6_trialJoins 49 = .ok (.iinc 2 1, 3) := by decide +kernel
theorem d6_trialJoins_52 : decode c6_trialJoins 52 = .ok (.goto (-50), 3) := by decide +kernel
theorem d6_trialJoins_55 : decode c6_trialJoins 55 = .ok (.iconst 0, 1) := by decide +kernel
theorem d6_trialJoins_56 : decode c6_trialJoins 56 = .ok (.ireturn, 1) := by decide +kernel
def t6_trialJoins (l : Launch) (Po : ri_O) : List ri_S := [i_con 1 0,
  i_is 2 2,
  i_il 3 2,
  i_al 4 0,
  i_get 5 6 4,
  i_callV 6 1 5 (ri_Ev l y5_kept w5_kept r5_kept 0 0) 0 0 0 0,
  i_icmp 7 29 (fun x y => y ≤ x),
  i_al 8 0,
  i_il 9 1,
  i_al 10 0,
  i_get 11 6 4,
  i_get 12 5 1,
  i_il 13 2,
  i_ald 14 0,
  i_callV 15 3 6 (ri_Ev l y6_isEntered w6_isEntered r6_isEntered 0 0) 0 0 0 0,
  i_if 16 27 (fun x => x = 0),
  i_al 17 0,
  i_il 18 1,
  i_al 19 0,
  i_get 20 6 4,
  i_get 21 5 1,
  i_il 22 2,
  i_ald 23 0,
  i_callV 24 3 6 (ri_Ev l y6_goesOn w6_goesOn r6_goesOn 0 0) 0 0 0 0,
  i_if 25 27 (fun x => x = 0),
  i_con 26 1,
  i_zret Po 0 0,
  i_inc 28 2 1,
  i_goto 2,
  i_con 30 0,
  i_zret Po 0 0]
set_option maxRecDepth 20000 in
set_option maxHeartbeats 4000000 in
theorem z6_trialJoins (l : Launch) (Po : ri_O) (p : Program) (e : Env) (s : State) (m : MethodId) (args : Array Value) (below : List Frame) (meth : Method) (c : Code) (D : va_G) (ka : Nat → ClassId) (sa : Nat → Nat) (base : Nat) (X : ri_X p s m args c c6_trialJoins 3 w6_trialJoins "ChoraleSearch$Reach" D ka sa base) (hret : meth.sig.returnType = (some .boolean)) (hlocks : meth.locks = false) (hname : meth.name = "trialJoins") : ri_clo (ri_W p l e r6_trialJoins s m args below meth c D ka sa base 3 (MQ below (ri_Qc D ka sa base Po) args s 0 0 (fun q => base ≤ q)) p6_trialJoins) (t6_trialJoins l Po) := by
  refine ri_clo_of ?_
  unfold t6_trialJoins
  exact ⟨s_iconst X d6_trialJoins_0 rfl rfl,
    s_istore_n X d6_trialJoins_1 rfl (by decide) rfl,
    s_iload_n X d6_trialJoins_2 rfl rfl,
    s_aload_n X d6_trialJoins_3 rfl rfl,
    s_get X (ci := 6) (f := 4) rfl (fun w h => List.mem_cons_of_mem _ (uC_6 w h)) (by decide) (List.mem_cons_of_mem _ mgw_243) d6_trialJoins_4 rfl,
    s_callVN ri_NW_ok X (na := 0) (ci := 5) rfl ⟨ri_cN X 0 mgw_520 (List.mem_cons_of_mem _ mgw_8) (List.mem_of_getElem? (i := 83) rfl) (by decide +kernel) rfl rfl ⟨by decide, by decide⟩, X.2.2.2.2.1 _ (List.mem_cons_of_mem _ mgw_519), X.2.2.2.2.1 _ (List.mem_cons_of_mem _ mgp_28)⟩ d6_trialJoins_7 rfl,
    s_icmp_ge X d6_trialJoins_10 rfl rfl,
    s_aload_n X d6_trialJoins_13 rfl rfl,
    s_iload_n X d6_trialJoins_14 rfl rfl,
    s_aload_n X d6_trialJoins_15 rfl rfl,
    s_get X (ci := 6) (f := 4) rfl (fun w h => List.mem_cons_of_mem _ (uC_6 w h)) (by decide) (List.mem_cons_of_mem _ mgw_243) d6_trialJoins_16 rfl,
    s_getN X (ci := 5) (f := 1) rfl (fun w h => List.mem_cons_of_mem _ (uC_5 w h)) (by decide) (List.mem_of_getElem? (i := 30) rfl) d6_trialJoins_19 rfl,
    s_iload_n X d6_trialJoins_22 rfl rfl,
    s_iald X rfl d6_trialJoins_23 rfl,
    s_callV ri_NW_ok X (na := 2) (ci := 6) rfl ⟨ri_cB X 2 mgw_692 (List.mem_cons_of_mem _ mgw_9) (List.mem_cons_of_mem _ mgw_689) (by decide +kernel) rfl rfl ⟨by decide, by decide⟩, X.2.2.2.2.1 _ (List.mem_cons_of_mem _ mgw_691), X.2.2.2.2.1 _ (List.mem_cons_of_mem _ mgp_55)⟩ d6_trialJoins_24 rfl,
    s_if_eq X d6_trialJoins_27 rfl rfl,
    s_aload_n X d6_trialJoins_30 rfl rfl,
    s_iload_n X d6_trialJoins_31 rfl rfl,
    s_aload_n X d6_trialJoins_32 rfl rfl,
    s_get X (ci := 6) (f := 4) rfl (fun w h => List.mem_cons_of_mem _ (uC_6 w h)) (by decide) (List.mem_cons_of_mem _ mgw_243) d6_trialJoins_33 rfl,
    s_getN X (ci := 5) (f := 1) rfl (fun w h => List.mem_cons_of_mem _ (uC_5 w h)) (by decide) (List.mem_of_getElem? (i := 30) rfl) d6_trialJoins_36 rfl,
    s_iload_n X d6_trialJoins_39 rfl rfl,
    s_iald X rfl d6_trialJoins_40 rfl,
    s_callV ri_NW_ok X (na := 2) (ci := 6) rfl ⟨ri_cB X 2 mgw_769 (List.mem_cons_of_mem _ mgw_9) (List.mem_cons_of_mem _ mgw_766) (by decide +kernel) rfl rfl ⟨by decide, by decide⟩, X.2.2.2.2.1 _ (List.mem_cons_of_mem _ mgw_768), X.2.2.2.2.1 _ (List.mem_cons_of_mem _ mgp_73)⟩ d6_trialJoins_41 rfl,
    s_if_eq X d6_trialJoins_44 rfl rfl,
    s_iconst X d6_trialJoins_47 rfl rfl,
    s_zret X hret hlocks d6_trialJoins_48,
    s_iinc X d6_trialJoins_49 rfl (by decide) rfl,
    s_goto X d6_trialJoins_52 rfl,
    s_iconst X d6_trialJoins_55 rfl rfl,
    s_zret X hret hlocks d6_trialJoins_56, trivial⟩
