theorem d3_init_0 : decode c3_init 0 = .ok (.aload_n 0, 1) := by decide +kernel
theorem d3_init_1 : decode c3_init 1 = .ok (.invokespecial 3, 3) := by decide +kernel
theorem d3_init_4 : decode c3_init 4 = .ok (.aload_n 0, 1) := by decide +kernel
theorem d3_init_5 : decode c3_init 5 = .ok (.iconst 4, 1) := by decide +kernel
theorem d3_init_6 : decode c3_init 6 = .ok (.newarray .int, 2) := by decide +kernel
theorem d3_init_8 : decode c3_init 8 = .ok (.putfield 9, 3) := by decide +kernel
theorem d3_init_11 : decode c3_init 11 = .ok (.aload_n 0, 1) := by decide +kernel
theorem d3_init_12 : decode c3_init 12 = .ok (.iconst 4, 1) := by decide +kernel
theorem d3_init_13 : decode c3_init 13 = .ok (.newarray .int, 2) := by decide +kernel
theorem d3_init_15 : decode c3_init 15 = .ok (.putfield 15, 3) := by decide +kernel
theorem d3_init_18 : decode c3_init 18 = .ok (.aload_n 0, 1) := by decide +kernel
theorem d3_init_19 : decode c3_init 19 = .ok (.aload_n 1, 1) := by decide +kernel
theorem d3_init_20 : decode c3_init 20 = .ok (.putfield 18, 3) := by decide +kernel
theorem d3_init_23 : decode c3_init 23 = .ok (.return_, 1) := by decide +kernel
def t3_init (l : Launch) (Po : ri_O) : List ri_S := [i_al 1 0,
  i_oi 2 1 20,
  i_al 3 0,
  i_con 4 4,
  i_nwa 5 0 2 8,
  i_put 6 3 3 ri_isR,
  i_al 7 0,
  i_con 8 4,
  i_nwa 9 0 2 8,
  i_put 10 3 4 ri_isR,
  i_al 11 0,
  i_al 12 1,
  i_put 13 3 0 ri_isR,
  i_vret Po 2 8]
set_option maxRecDepth 20000 in
set_option maxHeartbeats 4000000 in
theorem z3_init (l : Launch) (Po : ri_O) (p : Program) (e : Env) (s : State) (m : MethodId) (args : Array Value) (below : List Frame) (meth : Method) (c : Code) (D : va_G) (ka : Nat → ClassId) (sa : Nat → Nat) (base : Nat) (X : ri_X p s m args c c3_init 2 w3_init "ChoraleSearch$StepRules" D ka sa base) (hret : meth.sig.returnType = none) (hlocks : meth.locks = false) (hname : meth.name = "<init>") : ri_clo (ri_W p l e r3_init s m args below meth c D ka sa base 2 (MQ below (ri_Qc D ka sa base Po) args s 2 8 (fun q => base ≤ q)) p3_init) (t3_init l Po) := by
  refine ri_clo_of ?_
  unfold t3_init
  exact ⟨s_aload_n X d3_init_0 rfl rfl,
    s_oi X (List.mem_cons_of_mem _ mgw_168) (List.mem_cons_of_mem _ mgw_22) (List.mem_cons_of_mem _ mgw_23) d3_init_1 rfl,
    s_aload_n X d3_init_4 rfl rfl,
    s_iconst X d3_init_5 rfl rfl,
    s_newi X rfl (List.mem_cons_of_mem _ mgw_78) d3_init_6 rfl,
    s_putF X (ci := 3) (f := 3) rfl (fun w h => List.mem_cons_of_mem _ (uC_3 w h)) (by decide) tC_3 oC_3 nC_3 rfl ri_ok_arr (List.mem_cons_of_mem _ mgw_172) hname rfl d3_init_8 rfl,
    s_aload_n X d3_init_11 rfl rfl,
    s_iconst X d3_init_12 rfl rfl,
    s_newi X rfl (List.mem_cons_of_mem _ mgw_78) d3_init_13 rfl,
    s_putF X (ci := 3) (f := 4) rfl (fun w h => List.mem_cons_of_mem _ (uC_3 w h)) (by decide) tC_3 oC_3 nC_3 rfl ri_ok_arr (List.mem_cons_of_mem _ mgw_173) hname rfl d3_init_15 rfl,
    s_aload_n X d3_init_18 rfl rfl,
    s_aload_n X d3_init_19 rfl rfl,
    s_putF X (ci := 3) (f := 0) rfl (fun w h => List.mem_cons_of_mem _ (uC_3 w h)) (by decide) tC_3 oC_3 nC_3 rfl ri_ok_ref (List.mem_cons_of_mem _ mgw_169) hname rfl d3_init_20 rfl,
    s_vret X hret hlocks d3_init_23, trivial⟩
theorem d7_init_0 : decode c7_init 0 = .ok (.aload_n 0, 1) := by decide +kernel
theorem d7_init_1 : decode c7_init 1 = .ok (.invokespecial 3, 3) := by decide +kernel
theorem d7_init_4 : decode c7_init 4 = .ok (.aload_n 0, 1) := by decide +kernel
theorem d7_init_5 : decode c7_init 5 = .ok (.aload_n 1, 1) := by decide +kernel
theorem d7_init_6 : decode c7_init 6 = .ok (.putfield 9, 3) := by decide +kernel
theorem d7_init_9 : decode c7_init 9 = .ok (.aload_n 0, 1) := by decide +kernel
theorem d7_init_10 : decode c7_init 10 = .ok (.aload_n 2, 1) := by decide +kernel
theorem d7_init_11 : decode c7_init 11 = .ok (.putfield 15, 3) := by decide +kernel
theorem d7_init_14 : decode c7_init 14 = .ok (.return_, 1) := by decide +kernel
def t7_init (l : Launch) (Po : ri_O) : List ri_S := [i_al 1 0,
  i_oi 2 1 20,
  i_al 3 0,
  i_al 4 1,
  i_put 5 7 0 ri_isR,
  i_al 6 0,
  i_al 7 2,
  i_put 8 7 1 ri_isR,
  i_vret Po 0 0]
set_option maxRecDepth 20000 in
set_option maxHeartbeats 4000000 in
theorem z7_init (l : Launch) (Po : ri_O) (p : Program) (e : Env) (s : State) (m : MethodId) (args : Array Value) (below : List Frame) (meth : Method) (c : Code) (D : va_G) (ka : Nat → ClassId) (sa : Nat → Nat) (base : Nat) (X : ri_X p s m args c c7_init 3 w7_init "ChoraleSearch$Costs" D ka sa base) (hret : meth.sig.returnType = none) (hlocks : meth.locks = false) (hname : meth.name = "<init>") : ri_clo (ri_W p l e r7_init s m args below meth c D ka sa base 3 (MQ below (ri_Qc D ka sa base Po) args s 0 0 (fun q => base ≤ q)) p7_init) (t7_init l Po) := by
  refine ri_clo_of ?_
  unfold t7_init
  exact ⟨s_aload_n X d7_init_0 rfl rfl,
    s_oi X (List.mem_cons_of_mem _ mgw_262) (List.mem_cons_of_mem _ mgw_22) (List.mem_cons_of_mem _ mgw_23) d7_init_1 rfl,
    s_aload_n X d7_init_4 rfl rfl,
    s_aload_n X d7_init_5 rfl rfl,
    s_putF X (ci := 7) (f := 0) rfl (fun w h => List.mem_cons_of_mem _ (uC_7 w h)) (by decide) tC_7 oC_7 nC_7 rfl ri_ok_ref (List.mem_cons_of_mem _ mgw_263) hname rfl d7_init_6 rfl,
    s_aload_n X d7_init_9 rfl rfl,
    s_aload_n X d7_init_10 rfl rfl,
    s_putF X (ci := 7) (f := 1) rfl (fun w h => List.mem_cons_of_mem _ (uC_7 w h)) (by decide) tC_7 oC_7 nC_7 rfl ri_ok_ref (List.mem_cons_of_mem _ mgw_264) hname rfl d7_init_11 rfl,
    s_vret X hret hlocks d7_init_14, trivial⟩
theorem d7_ofState_0 : decode c7_ofState 0 = .ok (.aload_n 0, 1) := by decide +kernel
theorem d7_ofState_1 : decode c7_ofState 1 = .ok (.getfield 9, 3) := by decide +kernel
theorem d7_ofState_4 : decode c7_ofState 4 = .ok (.getfield 19, 3) := by decide +kernel
theorem d7_ofState_7 : decode c7_ofState 7 = .ok (.iconst 3, 1) := by decide +kernel
theorem d7_ofState_8 : decode c7_ofState 8 = .ok (.iaload, 1) := by decide +kernel
theorem d7_ofState_9 : decode c7_ofState 9 = .ok (.aload_n 0, 1) := by decide +kernel
theorem d7_ofState_10 : decode c7_ofState 10 = .ok (.iload_n 1, 1) := by decide +kernel
theorem d7_ofState_11 : decode c7_ofState 11 = .ok (.invokevirtual 25, 3) := by decide +kernel
theorem d7_ofState_14 : decode c7_ofState 14 = .ok (.imul, 1) := by decide +kernel
theorem d7_ofState_15 : decode c7_ofState 15 = .ok (.istore_n 2, 1) := by decide +kernel
theorem d7_ofState_16 : decode c7_ofState 16 = .ok (.iload_n 2, 1) := by decide +kernel
theorem d7_ofState_17 : decode c7_ofState 17 = .ok (.aload_n 0, 1) := by decide +kernel
theorem d7_ofState_18 : decode c7_ofState 18 = .ok (.getfield 9, 3) := by decide +kernel
theorem d7_ofState_21 : decode c7_ofState 21 = .ok (.getfield 19, 3) := by decide +kernel
theorem d7_ofState_24 : decode c7_ofState 24 = .ok (.bipush 8, 2) := by decide +kernel
theorem d7_ofState_26 : decode c7_ofState 26 = .ok (.iaload, 1) := by decide +kernel
theorem d7_ofState_27 : decode c7_ofState 27 = .ok (.iload_n 1, 1) := by decide +kernel
theorem d7_ofState_28 : decode c7_ofState 28 = .ok (.invokestatic 29, 3) := by decide +kernel
theorem d7_ofState_31 : decode c7_ofState 31 = .ok (.imul, 1) := by decide +kernel
theorem d7_ofState_32 : decode c7_ofState 32 = .ok (.iadd, 1) := by decide +kernel
theorem d7_ofState_33 : decode c7_ofState 33 = .ok (.istore_n 2, 1) := by decide +kernel
theorem d7_ofState_34 : decode c7_ofState 34 = .ok (.aload_n 0, 1) := by decide +kernel
theorem d7_ofState_35 : decode c7_ofState 35 = .ok (.getfield 15, 3) := by decide +kernel
theorem d7_ofState_38 : decode c7_ofState 38 = .ok (.iload_n 1, 1) := by decide +kernel
theorem d7_ofState_39 : decode c7_ofState 39 = .ok (.iconst 2, 1) := by decide +kernel
theorem d7_ofState_40 : decode c7_ofState 40 = .ok (.invokevirtual 32, 3) := by decide +kernel
theorem d7_ofState_43 : decode c7_ofState 43 = .ok (.ifCond .ne 15, 3) := by decide +kernel
theorem d7_ofState_46 : decode c7_ofState 46 = .ok (.iload_n 2, 1) := by decide +kernel
theorem d7_ofState_47 : decode c7_ofState 47 = .ok (.aload_n 0, 1) := by decide +kernel
theorem d7_ofState_48 : decode c7_ofState 48 = .ok (.getfield 9, 3) := by decide +kernel
theorem d7_ofState_51 : decode c7_ofState 51 = .ok (.getfield 19, 3) := by decide +kernel
theorem d7_ofState_54 : decode c7_ofState 54 = .ok (.iconst 2, 1) := by decide +kernel
theorem d7_ofState_55 : decode c7_ofState 55 = .ok (.iaload, 1) := by decide +kernel
theorem d7_ofState_56 : decode c7_ofState 56 = .ok (.iadd, 1) := by decide +kernel
theorem d7_ofState_57 : decode c7_ofState 57 = .ok (.istore_n 2, 1) := by decide +kernel
theorem d7_ofState_58 : decode c7_ofState 58 = .ok (.iload_n 1, 1) := by decide +kernel
theorem d7_ofState_59 : decode c7_ofState 59 = .ok (.invokestatic 38, 3) := by decide +kernel
theorem d7_ofState_62 : decode c7_ofState 62 = .ok (.istore_n 3, 1) := by decide +kernel
theorem d7_ofState_63 : decode c7_ofState 63 = .ok (.iload_n 3, 1) := by decide +kernel
theorem d7_ofState_64 : decode c7_ofState 64 = .ok (.ifCond .eq 13, 3) := by decide +kernel
theorem d7_ofState_67 : decode c7_ofState 67 = .ok (.iload_n 3, 1) := by decide +kernel
theorem d7_ofState_68 : decode c7_ofState 68 = .ok (.iconst 3, 1) := by decide +kernel
theorem d7_ofState_69 : decode c7_ofState 69 = .ok (.if_icmp .eq 8, 3) := by decide +kernel
theorem d7_ofState_72 : decode c7_ofState 72 = .ok (.iload_n 3, 1) := by decide +kernel
theorem d7_ofState_73 : decode c7_ofState 73 = .ok (.iconst 4, 1) := by decide +kernel
theorem d7_ofState_74 : decode c7_ofState 74 = .ok (.if_icmp .ne 29, 3) := by decide +kernel
theorem d7_ofState_77 : decode c7_ofState 77 = .ok (.aload_n 0, 1) := by decide +kernel
theorem d7_ofState_78 : decode c7_ofState 78 = .ok (.getfield 15, 3) := by decide +kernel
theorem d7_ofState_81 : decode c7_ofState 81 = .ok (.iload_n 1, 1) := by decide +kernel
theorem d7_ofState_82 : decode c7_ofState 82 = .ok (.iconst 1, 1) := by decide +kernel
theorem d7_ofState_83 : decode c7_ofState 83 = .ok (.invokevirtual 32, 3) := by decide +kernel
theorem d7_ofState_86 : decode c7_ofState 86 = .ok (.iconst 2, 1) := by decide +kernel
theorem d7_ofState_87 : decode c7_ofState 87 = .ok (.if_icmp .lt 16, 3) := by decide +kernel
theorem d7_ofState_90 : decode c7_ofState 90 = .ok (.iload_n 2, 1) := by decide +kernel
theorem d7_ofState_91 : decode c7_ofState 91 = .ok (.aload_n 0, 1) := by decide +kernel
theorem d7_ofState_92 : decode c7_ofState 92 = .ok (.getfield 9, 3) := by decide +kernel
theorem d7_ofState_95 : decode c7_ofState 95 = .ok (.getfield 19, 3) := by decide +kernel
theorem d7_ofState_98 : decode c7_ofState 98 = .ok (.bipush 6, 2) := by decide +kernel
theorem d7_ofState_100 : decode c7_ofState 100 = .ok (.iaload, 1) := by decide +kernel
theorem d7_ofState_101 : decode c7_ofState 101 = .ok (.iadd, 1) := by decide +kernel
theorem d7_ofState_102 : decode c7_ofState 102 = .ok (.istore_n 2, 1) := by decide +kernel
theorem d7_ofState_103 : decode c7_ofState 103 = .ok (.iload_n 2, 1) := by decide +kernel
theorem d7_ofState_104 : decode c7_ofState 104 = .ok (.ireturn, 1) := by decide +kernel
def t7_ofState (l : Launch) (Po : ri_O) : List ri_S := [i_al 1 0,
  i_get 2 7 0,
  i_get 3 0 6,
  i_con 4 3,
  i_ald 5 0,
  i_al 6 0,
  i_il 7 1,
  i_callV 8 2 7 (ri_Ev l y7_inversionUnits w7_inversionUnits r7_inversionUnits 0 0) 0 0 0 0,
  i_bin 9 (fun x y => x * y),
  i_is 10 2,
  i_il 11 2,
  i_al 12 0,
  i_get 13 7 0,
  i_get 14 0 6,
  i_con 15 8,
  i_ald 16 0,
  i_il 17 1,
  i_call 18 1 (ri_Ev l y7_unisons w7_unisons r7_unisons 0 0) 0 0 0 0,
  i_bin 19 (fun x y => x * y),
  i_bin 20 (fun x y => x + y),
  i_is 21 2,
  i_al 22 0,
  i_get 23 7 1,
  i_il 24 1,
  i_con 25 2,
  i_callV 26 3 1 (ri_Ev l y1_timesMember w1_timesMember r1_timesMember 0 0) 0 0 0 0,
  i_if 27 35 (fun x => ¬ x = 0),
  i_il 28 2,
  i_al 29 0,
  i_get 30 7 0,
  i_get 31 0 6,
  i_con 32 2,
  i_ald 33 0,
  i_bin 34 (fun x y => x + y),
  i_is 35 2,
  i_il 36 1,
  i_call 37 1 (ri_Ev l y11_chordOf w11_chordOf r11_chordOf 0 0) 0 0 0 0,
  i_is 38 3,
  i_il 39 3,
  i_if 40 46 (fun x => x = 0),
  i_il 41 3,
  i_con 42 3,
  i_icmp 43 46 (fun x y => x = y),
  i_il 44 3,
  i_con 45 4,
  i_icmp 46 61 (fun x y => ¬ x = y),
  i_al 47 0,
  i_get 48 7 1,
  i_il 49 1,
  i_con 50 1,
  i_callV 51 3 1 (ri_Ev l y1_timesMember w1_timesMember r1_timesMember 0 0) 0 0 0 0,
  i_con 52 2,
  i_icmp 53 61 (fun x y => x < y),
  i_il 54 2,
  i_al 55 0,
  i_get 56 7 0,
  i_get 57 0 6,
  i_con 58 6,
  i_ald 59 0,
  i_bin 60 (fun x y => x + y),
  i_is 61 2,
  i_il 62 2,
  i_ret Po 0 0]
set_option maxRecDepth 20000 in
set_option maxHeartbeats 4000000 in
theorem z7_ofState (l : Launch) (Po : ri_O) (p : Program) (e : Env) (s : State) (m : MethodId) (args : Array Value) (below : List Frame) (meth : Method) (c : Code) (D : va_G) (ka : Nat → ClassId) (sa : Nat → Nat) (base : Nat) (X : ri_X p s m args c c7_ofState 4 w7_ofState "ChoraleSearch$Costs" D ka sa base) (hret : meth.sig.returnType = (some .int)) (hlocks : meth.locks = false) (hname : meth.name = "ofState") : ri_clo (ri_W p l e r7_ofState s m args below meth c D ka sa base 4 (MQ below (ri_Qc D ka sa base Po) args s 0 0 (fun q => base ≤ q)) p7_ofState) (t7_ofState l Po) := by
  refine ri_clo_of ?_
  unfold t7_ofState
  exact ⟨s_aload_n X d7_ofState_0 rfl rfl,
    s_get X (ci := 7) (f := 0) rfl (fun w h => List.mem_cons_of_mem _ (uC_7 w h)) (by decide) (List.mem_cons_of_mem _ mgw_263) d7_ofState_1 rfl,
    s_getN X (ci := 0) (f := 6) rfl (fun w h => List.mem_cons_of_mem _ (uC_0 w h)) (by decide) (List.mem_of_getElem? (i := 13) rfl) d7_ofState_4 rfl,
    s_iconst X d7_ofState_7 rfl rfl,
    s_iald X rfl d7_ofState_8 rfl,
    s_aload_n X d7_ofState_9 rfl rfl,
    s_iload_n X d7_ofState_10 rfl rfl,
    s_callV ri_NW_ok X (na := 1) (ci := 7) rfl ⟨ri_cB X 1 mgw_529 (List.mem_cons_of_mem _ mgw_11) (List.mem_cons_of_mem _ mgw_526) (by decide +kernel) rfl rfl ⟨by decide, by decide⟩, X.2.2.2.2.1 _ (List.mem_cons_of_mem _ mgw_528), X.2.2.2.2.1 _ (List.mem_cons_of_mem _ mgp_30)⟩ d7_ofState_11 rfl,
    s_imul X d7_ofState_14 rfl,
    s_istore_n X d7_ofState_15 rfl (by decide) rfl,
    s_iload_n X d7_ofState_16 rfl rfl,
    s_aload_n X d7_ofState_17 rfl rfl,
    s_get X (ci := 7) (f := 0) rfl (fun w h => List.mem_cons_of_mem _ (uC_7 w h)) (by decide) (List.mem_cons_of_mem _ mgw_263) d7_ofState_18 rfl,
    s_getN X (ci := 0) (f := 6) rfl (fun w h => List.mem_cons_of_mem _ (uC_0 w h)) (by decide) (List.mem_of_getElem? (i := 13) rfl) d7_ofState_21 rfl,
    s_bipush X d7_ofState_24 rfl rfl,
    s_iald X rfl d7_ofState_26 rfl,
    s_iload_n X d7_ofState_27 rfl rfl,
    s_callS ri_NW_ok X ⟨ri_cB X 1 mgw_541 (List.mem_cons_of_mem _ mgw_11) (List.mem_cons_of_mem _ mgw_539) (by decide +kernel) rfl rfl ⟨by decide, by decide⟩, X.2.2.2.2.1 _ (List.mem_cons_of_mem _ mgw_540)⟩ d7_ofState_28 rfl,
    s_imul X d7_ofState_31 rfl,
    s_iadd X d7_ofState_32 rfl,
    s_istore_n X d7_ofState_33 rfl (by decide) rfl,
    s_aload_n X d7_ofState_34 rfl rfl,
    s_get X (ci := 7) (f := 1) rfl (fun w h => List.mem_cons_of_mem _ (uC_7 w h)) (by decide) (List.mem_cons_of_mem _ mgw_264) d7_ofState_35 rfl,
    s_iload_n X d7_ofState_38 rfl rfl,
    s_iconst X d7_ofState_39 rfl rfl,
    s_callVN ri_NW_ok X (na := 2) (ci := 1) rfl ⟨ri_cN X 2 mgw_545 (List.mem_cons_of_mem _ mgw_3) (List.mem_of_getElem? (i := 68) rfl) (by decide +kernel) rfl rfl ⟨by decide, by decide⟩, X.2.2.2.2.1 _ (List.mem_cons_of_mem _ mgw_544), X.2.2.2.2.1 _ (List.mem_cons_of_mem _ mgp_31)⟩ d7_ofState_40 rfl,
    s_if_ne X d7_ofState_43 rfl rfl,
    s_iload_n X d7_ofState_46 rfl rfl,
    s_aload_n X d7_ofState_47 rfl rfl,
    s_get X (ci := 7) (f := 0) rfl (fun w h => List.mem_cons_of_mem _ (uC_7 w h)) (by decide) (List.mem_cons_of_mem _ mgw_263) d7_ofState_48 rfl,
    s_getN X (ci := 0) (f := 6) rfl (fun w h => List.mem_cons_of_mem _ (uC_0 w h)) (by decide) (List.mem_of_getElem? (i := 13) rfl) d7_ofState_51 rfl,
    s_iconst X d7_ofState_54 rfl rfl,
    s_iald X rfl d7_ofState_55 rfl,
    s_iadd X d7_ofState_56 rfl,
    s_istore_n X d7_ofState_57 rfl (by decide) rfl,
    s_iload_n X d7_ofState_58 rfl rfl,
    s_callSN ri_NW_ok X ⟨ri_cN X 1 mgw_535 (List.mem_cons_of_mem _ mgw_14) (List.mem_of_getElem? (i := 66) rfl) (by decide +kernel) rfl rfl ⟨by decide, by decide⟩, X.2.2.2.2.1 _ (List.mem_cons_of_mem _ mgw_534), trivial⟩ d7_ofState_59 rfl,
    s_istore_n X d7_ofState_62 rfl (by decide) rfl,
    s_iload_n X d7_ofState_63 rfl rfl,
    s_if_eq X d7_ofState_64 rfl rfl,
    s_iload_n X d7_ofState_67 rfl rfl,
    s_iconst X d7_ofState_68 rfl rfl,
    s_icmp_eq X d7_ofState_69 rfl rfl,
    s_iload_n X d7_ofState_72 rfl rfl,
    s_iconst X d7_ofState_73 rfl rfl,
    s_icmp_ne X d7_ofState_74 rfl rfl,
    s_aload_n X d7_ofState_77 rfl rfl,
    s_get X (ci := 7) (f := 1) rfl (fun w h => List.mem_cons_of_mem _ (uC_7 w h)) (by decide) (List.mem_cons_of_mem _ mgw_264) d7_ofState_78 rfl,
    s_iload_n X d7_ofState_81 rfl rfl,
    s_iconst X d7_ofState_82 rfl rfl,
    s_callVN ri_NW_ok X (na := 2) (ci := 1) rfl ⟨ri_cN X 2 mgw_545 (List.mem_cons_of_mem _ mgw_3) (List.mem_of_getElem? (i := 68) rfl) (by decide +kernel) rfl rfl ⟨by decide, by decide⟩, X.2.2.2.2.1 _ (List.mem_cons_of_mem _ mgw_544), X.2.2.2.2.1 _ (List.mem_cons_of_mem _ mgp_31)⟩ d7_ofState_83 rfl,
    s_iconst X d7_ofState_86 rfl rfl,
    s_icmp_lt X d7_ofState_87 rfl rfl,
    s_iload_n X d7_ofState_90 rfl rfl,
    s_aload_n X d7_ofState_91 rfl rfl,
    s_get X (ci := 7) (f := 0) rfl (fun w h => List.mem_cons_of_mem _ (uC_7 w h)) (by decide) (List.mem_cons_of_mem _ mgw_263) d7_ofState_92 rfl,
    s_getN X (ci := 0) (f := 6) rfl (fun w h => List.mem_cons_of_mem _ (uC_0 w h)) (by decide) (List.mem_of_getElem? (i := 13) rfl) d7_ofState_95 rfl,
    s_bipush X d7_ofState_98 rfl rfl,
    s_iald X rfl d7_ofState_100 rfl,
    s_iadd X d7_ofState_101 rfl,
    s_istore_n X d7_ofState_102 rfl (by decide) rfl,
    s_iload_n X d7_ofState_103 rfl rfl,
    s_iret X hret hlocks d7_ofState_104, trivial⟩
theorem d7_inversionUnits_0 : decode c7_inversionUnits 0 = .ok (.iload_n 1, 1) := by decide +kernel
theorem d7_inversionUnits_1 : decode c7_inversionUnits 1 = .ok (.iconst 3, 1) := by decide +kernel
theorem d7_inversionUnits_2 : decode c7_inversionUnits 2 = .ok (.invokestatic 43, 3) := by decide +kernel
theorem d7_inversionUnits_5 : decode c7_inversionUnits 5 = .ok (.bipush 12, 2) := by decide +kernel
theorem d7_inversionUnits_7 : decode c7_inversionUnits 7 = .ok (.irem, 1) := by decide +kernel
theorem d7_inversionUnits_8 : decode c7_inversionUnits 8 = .ok (.istore_n 2, 1) := by decide +kernel
theorem d7_inversionUnits_9 : decode c7_inversionUnits 9 = .ok (.iconst 0, 1) := by decide +kernel
theorem d7_inversionUnits_10 : decode c7_inversionUnits 10 = .ok (.istore_n 3, 1) := by decide +kernel
theorem d7_inversionUnits_11 : decode c7_inversionUnits 11 = .ok (.iload_n 3, 1) := by decide +kernel
theorem d7_inversionUnits_12 : decode c7_inversionUnits 12 = .ok (.iconst 4, 1) := by decide +kernel
theorem d7_inversionUnits_13 : decode c7_inversionUnits 13 = .ok (.if_icmp .ge 31, 3) := by decide +kernel
theorem d7_inversionUnits_16 : decode c7_inversionUnits 16 = .ok (.aload_n 0, 1) := by decide +kernel
theorem d7_inversionUnits_17 : decode c7_inversionUnits 17 = .ok (.getfield 15, 3) := by decide +kernel
theorem d7_inversionUnits_20 : decode c7_inversionUnits 20 = .ok (.iload_n 1, 1) := by decide +kernel
theorem d7_inversionUnits_21 : decode c7_inversionUnits 21 = .ok (.invokestatic 38, 3) := by decide +kernel
theorem d7_inversionUnits_24 : decode c7_inversionUnits 24 = .ok (.iload_n 3, 1) := by decide +kernel
theorem d7_inversionUnits_25 : decode c7_inversionUnits 25 = .ok (.invokevirtual 46, 3) := by decide +kernel
theorem d7_inversionUnits_28 : decode c7_inversionUnits 28 = .ok (.iload_n 2, 1) := by decide +kernel
theorem d7_inversionUnits_29 : decode c7_inversionUnits 29 = .ok (.if_icmp .ne 9, 3) := by decide +kernel
theorem d7_inversionUnits_32 : decode c7_inversionUnits 32 = .ok (.getstatic 49, 3) := by decide +kernel
theorem d7_inversionUnits_35 : decode c7_inversionUnits 35 = .ok (.iload_n 3, 1) := by decide +kernel
theorem d7_inversionUnits_36 : decode c7_inversionUnits 36 = .ok (.iaload, 1) := by decide +kernel
theorem d7_inversionUnits_37 : decode c7_inversionUnits 37 = .ok (.ireturn, 1) := by decide +kernel
theorem d7_inversionUnits_38 : decode c7_inversionUnits 38 = .ok (.iinc 3 1, 3) := by decide +kernel
theorem d7_inversionUnits_41 : decode c7_inversionUnits 41 = .ok (.goto (-30), 3) := by decide +kernel
theorem d7_inversionUnits_44 : decode c7_inversionUnits 44 = .ok (.iconst 0, 1) := by decide +kernel
theorem d7_inversionUnits_45 : decode c7_inversionUnits 45 = .ok (.ireturn, 1) := by decide +kernel
def t7_inversionUnits (l : Launch) (Po : ri_O) : List ri_S := [i_il 1 1,
  i_con 2 3,
  i_call 3 2 (ri_Ev l y11_pitchOf w11_pitchOf r11_pitchOf 0 0) 0 0 0 0,
  i_con 4 12,
  i_div 5 (fun x y => x - x / y * y),
  i_is 6 2,
  i_con 7 0,
  i_is 8 3,
  i_il 9 3,
  i_con 10 4,
  i_icmp 11 25 (fun x y => y ≤ x),
  i_al 12 0,
  i_get 13 7 1,
  i_il 14 1,
  i_call 15 1 (ri_Ev l y11_chordOf w11_chordOf r11_chordOf 0 0) 0 0 0 0,
  i_il 16 3,
  i_callV 17 3 1 (ri_Ev l y1_memberClass w1_memberClass r1_memberClass 0 0) 0 0 0 0,
  i_il 18 2,
  i_icmp 19 23 (fun x y => ¬ x = y),
  i_gets 20 4,
  i_il 21 3,
  i_ald 22 0,
  i_ret Po 0 0,
  i_inc 24 3 1,
  i_goto 8,
  i_con 26 0,
  i_ret Po 0 0]
set_option maxRecDepth 20000 in
set_option maxHeartbeats 4000000 in
theorem z7_inversionUnits (l : Launch) (Po : ri_O) (p : Program) (e : Env) (s : State) (m : MethodId) (args : Array Value) (below : List Frame) (meth : Method) (c : Code) (D : va_G) (ka : Nat → ClassId) (sa : Nat → Nat) (base : Nat) (X : ri_X p s m args c c7_inversionUnits 4 w7_inversionUnits "ChoraleSearch$Costs" D ka sa base) (hret : meth.sig.returnType = (some .int)) (hlocks : meth.locks = false) (hname : meth.name = "inversionUnits") : ri_clo (ri_W p l e r7_inversionUnits s m args below meth c D ka sa base 4 (MQ below (ri_Qc D ka sa base Po) args s 0 0 (fun q => base ≤ q)) p7_inversionUnits) (t7_inversionUnits l Po) := by
  refine ri_clo_of ?_
  unfold t7_inversionUnits
  exact ⟨s_iload_n X d7_inversionUnits_0 rfl rfl,
    s_iconst X d7_inversionUnits_1 rfl rfl,
    s_callSN ri_NW_ok X ⟨ri_cN X 2 mgw_532 (List.mem_cons_of_mem _ mgw_14) (List.mem_of_getElem? (i := 65) rfl) (by decide +kernel) rfl rfl ⟨by decide, by decide⟩, X.2.2.2.2.1 _ (List.mem_cons_of_mem _ mgw_531), trivial⟩ d7_inversionUnits_2 rfl,
    s_bipush X d7_inversionUnits_5 rfl rfl,
    s_irem X d7_inversionUnits_7 rfl,
    s_istore_n X d7_inversionUnits_8 rfl (by decide) rfl,
    s_iconst X d7_inversionUnits_9 rfl rfl,
    s_istore_n X d7_inversionUnits_10 rfl (by decide) rfl,
    s_iload_n X d7_inversionUnits_11 rfl rfl,
    s_iconst X d7_inversionUnits_12 rfl rfl,
    s_icmp_ge X d7_inversionUnits_13 rfl rfl,
    s_aload_n X d7_inversionUnits_16 rfl rfl,
    s_get X (ci := 7) (f := 1) rfl (fun w h => List.mem_cons_of_mem _ (uC_7 w h)) (by decide) (List.mem_cons_of_mem _ mgw_264) d7_inversionUnits_17 rfl,
    s_iload_n X d7_inversionUnits_20 rfl rfl,
    s_callSN ri_NW_ok X ⟨ri_cN X 1 mgw_535 (List.mem_cons_of_mem _ mgw_14) (List.mem_of_getElem? (i := 66) rfl) (by decide +kernel) rfl rfl ⟨by decide, by decide⟩, X.2.2.2.2.1 _ (List.mem_cons_of_mem _ mgw_534), trivial⟩ d7_inversionUnits_21 rfl,
    s_iload_n X d7_inversionUnits_24 rfl rfl,
    s_callVN ri_NW_ok X (na := 2) (ci := 1) rfl ⟨ri_cN X 2 mgw_491 (List.mem_cons_of_mem _ mgw_3) (List.mem_of_getElem? (i := 67) rfl) (by decide +kernel) rfl rfl ⟨by decide, by decide⟩, X.2.2.2.2.1 _ (List.mem_cons_of_mem _ mgw_490), X.2.2.2.2.1 _ (List.mem_cons_of_mem _ mgp_22)⟩ d7_inversionUnits_25 rfl,
    s_iload_n X d7_inversionUnits_28 rfl rfl,
    s_icmp_ne X d7_inversionUnits_29 rfl rfl,
    s_gets X (q := 4) rfl rfl (List.mem_cons_of_mem _ mgw_537) d7_inversionUnits_32 rfl,
    s_iload_n X d7_inversionUnits_35 rfl rfl,
    s_iald X rfl d7_inversionUnits_36 rfl,
    s_iret X hret hlocks d7_inversionUnits_37,
    s_iinc X d7_inversionUnits_38 rfl (by decide) rfl,
    s_goto X d7_inversionUnits_41 rfl,
    s_iconst X d7_inversionUnits_44 rfl rfl,
    s_iret X hret hlocks d7_inversionUnits_45, trivial⟩
theorem d7_unisons_0 : decode c7_unisons 0 = .ok (.iconst 0, 1) := by decide +kernel
theorem d7_unisons_1 : decode c7_unisons 1 = .ok (.istore_n 1, 1) := by decide +kernel
theorem d7_unisons_2 : decode c7_unisons 2 = .ok (.iconst 0, 1) := by decide +kernel
theorem d7_unisons_3 : decode c7_unisons 3 = .ok (.istore_n 2, 1) := by decide +kernel
theorem d7_unisons_4 : decode c7_unisons 4 = .ok (.iload_n 2, 1) := by decide +kernel
theorem d7_unisons_5 : decode c7_unisons 5 = .ok (.iconst 3, 1) := by decide +kernel
theorem d7_unisons_6 : decode c7_unisons 6 = .ok (.if_icmp .ge 27, 3) := by decide +kernel
theorem d7_unisons_9 : decode c7_unisons 9 = .ok (.iload_n 0, 1) := by decide +kernel
theorem d7_unisons_10 : decode c7_unisons 10 = .ok (.iload_n 2, 1) := by decide +kernel
theorem d7_unisons_11 : decode c7_unisons 11 = .ok (.invokestatic 43, 3) := by decide +kernel
theorem d7_unisons_14 : decode c7_unisons 14 = .ok (.iload_n 0, 1) := by decide +kernel
theorem d7_unisons_15 : decode c7_unisons 15 = .ok (.iload_n 2, 1) := by decide +kernel
theorem d7_unisons_16 : decode c7_unisons 16 = .ok (.iconst 1, 1) := by decide +kernel
theorem d7_unisons_17 : decode c7_unisons 17 = .ok (.iadd, 1) := by decide +kernel
theorem d7_unisons_18 : decode c7_unisons 18 = .ok (.invokestatic 43, 3) := by decide +kernel
theorem d7_unisons_21 : decode c7_unisons 21 = .ok (.if_icmp .ne 6, 3) := by decide +kernel
theorem d7_unisons_24 : decode c7_unisons 24 = .ok (.iinc 1 1, 3) := by decide +kernel
theorem d7_unisons_27 : decode c7_unisons 27 = .ok (.iinc 2 1, 3) := by decide +kernel
theorem d7_unisons_30 : decode c7_unisons 30 = .ok (.goto (-26), 3) := by decide +kernel
theorem d7_unisons_33 : decode c7_unisons 33 = .ok (.iload_n 1, 1) := by decide +kernel
theorem d7_unisons_34 : decode c7_unisons 34 = .ok (.ireturn, 1) := by decide +kernel
def t7_unisons (l : Launch) (Po : ri_O) : List ri_S := [i_con 1 0,
  i_is 2 1,
  i_con 3 0,
  i_is 4 2,
  i_il 5 2,
  i_con 6 3,
  i_icmp 7 19 (fun x y => y ≤ x),
  i_il 8 0,
  i_il 9 2,
  i_call 10 2 (ri_Ev l y11_pitchOf w11_pitchOf r11_pitchOf 0 0) 0 0 0 0,
  i_il 11 0,
  i_il 12 2,
  i_con 13 1,
  i_bin 14 (fun x y => x + y),
  i_call 15 2 (ri_Ev l y11_pitchOf w11_pitchOf r11_pitchOf 0 0) 0 0 0 0,
  i_icmp 16 17 (fun x y => ¬ x = y),
  i_inc 17 1 1,
  i_inc 18 2 1,
  i_goto 4,
  i_il 20 1,
  i_ret Po 0 0]
set_option maxRecDepth 20000 in
set_option maxHeartbeats 4000000 in
theorem z7_unisons (l : Launch) (Po : ri_O) (p : Program) (e : Env) (s : State) (m : MethodId) (args : Array Value) (below : List Frame) (meth : Method) (c : Code) (D : va_G) (ka : Nat → ClassId) (sa : Nat → Nat) (base : Nat) (X : ri_X p s m args c c7_unisons 3 w7_unisons "ChoraleSearch$Costs" D ka sa base) (hret : meth.sig.returnType = (some .int)) (hlocks : meth.locks = false) (hname : meth.name = "unisons") : ri_clo (ri_W p l e r7_unisons s m args below meth c D ka sa base 3 (MQ below (ri_Qc D ka sa base Po) args s 0 0 (fun q => base ≤ q)) p7_unisons) (t7_unisons l Po) := by
  refine ri_clo_of ?_
  unfold t7_unisons
  exact ⟨s_iconst X d7_unisons_0 rfl rfl,
    s_istore_n X d7_unisons_1 rfl (by decide) rfl,
    s_iconst X d7_unisons_2 rfl rfl,
    s_istore_n X d7_unisons_3 rfl (by decide) rfl,
    s_iload_n X d7_unisons_4 rfl rfl,
    s_iconst X d7_unisons_5 rfl rfl,
    s_icmp_ge X d7_unisons_6 rfl rfl,
    s_iload_n X d7_unisons_9 rfl rfl,
    s_iload_n X d7_unisons_10 rfl rfl,
    s_callSN ri_NW_ok X ⟨ri_cN X 2 mgw_532 (List.mem_cons_of_mem _ mgw_14) (List.mem_of_getElem? (i := 65) rfl) (by decide +kernel) rfl rfl ⟨by decide, by decide⟩, X.2.2.2.2.1 _ (List.mem_cons_of_mem _ mgw_531), trivial⟩ d7_unisons_11 rfl,
    s_iload_n X d7_unisons_14 rfl rfl,
    s_iload_n X d7_unisons_15 rfl rfl,
    s_iconst X d7_unisons_16 rfl rfl,
    s_iadd X d7_unisons_17 rfl,
    s_callSN ri_NW_ok X ⟨ri_cN X 2 mgw_532 (List.mem_cons_of_mem _ mgw_14) (List.mem_of_getElem? (i := 65) rfl) (by decide +kernel) rfl rfl ⟨by decide, by decide⟩, X.2.2.2.2.1 _ (List.mem_cons_of_mem _ mgw_531), trivial⟩ d7_unisons_18 rfl,
    s_icmp_ne X d7_unisons_21 rfl rfl,
    s_iinc X d7_unisons_24 rfl (by decide) rfl,
    s_iinc X d7_unisons_27 rfl (by decide) rfl,
    s_goto X d7_unisons_30 rfl,
    s_iload_n X d7_unisons_33 rfl rfl,
    s_iret X hret hlocks d7_unisons_34, trivial⟩
theorem d3_allow_0 : decode c3_allow 0 = .ok (.aload_n 0, 1) := by decide +kernel
theorem d3_allow_1 : decode c3_allow 1 = .ok (.iload_n 1, 1) := by decide +kernel
theorem d3_allow_2 : decode c3_allow 2 = .ok (.iload_n 2, 1) := by decide +kernel
theorem d3_allow_3 : decode c3_allow 3 = .ok (.invokevirtual 22, 3) := by decide +kernel
theorem d3_allow_6 : decode c3_allow 6 = .ok (.aload_n 0, 1) := by decide +kernel
theorem d3_allow_7 : decode c3_allow 7 = .ok (.invokevirtual 26, 3) := by decide +kernel
theorem d3_allow_10 : decode c3_allow 10 = .ok (.ifCond .ne 42, 3) := by decide +kernel
theorem d3_allow_13 : decode c3_allow 13 = .ok (.aload_n 0, 1) := by decide +kernel
theorem d3_allow_14 : decode c3_allow 14 = .ok (.invokevirtual 30, 3) := by decide +kernel
theorem d3_allow_17 : decode c3_allow 17 = .ok (.ifCond .ne 35, 3) := by decide +kernel
theorem d3_allow_20 : decode c3_allow 20 = .ok (.aload_n 0, 1) := by decide +kernel
theorem d3_allow_21 : decode c3_allow 21 = .ok (.invokevirtual 33, 3) := by decide +kernel
theorem d3_allow_24 : decode c3_allow 24 = .ok (.ifCond .ne 28, 3) := by decide +kernel
theorem d3_allow_27 : decode c3_allow 27 = .ok (.aload_n 0, 1) := by decide +kernel
theorem d3_allow_28 : decode c3_allow 28 = .ok (.invokevirtual 36, 3) := by decide +kernel
theorem d3_allow_31 : decode c3_allow 31 = .ok (.ifCond .ne 21, 3) := by decide +kernel
theorem d3_allow_34 : decode c3_allow 34 = .ok (.aload_n 0, 1) := by decide +kernel
theorem d3_allow_35 : decode c3_allow 35 = .ok (.invokevirtual 39, 3) := by decide +kernel
theorem d3_allow_38 : decode c3_allow 38 = .ok (.ifCond .ne 14, 3) := by decide +kernel
theorem d3_allow_41 : decode c3_allow 41 = .ok (.aload_n 0, 1) := by decide +kernel
theorem d3_allow_42 : decode c3_allow 42 = .ok (.invokevirtual 42, 3) := by decide +kernel
theorem d3_allow_45 : decode c3_allow 45 = .ok (.ifCond .ne 7, 3) := by decide +kernel
theorem d3_allow_48 : decode c3_allow 48 = .ok (.iconst 1, 1) := by decide +kernel
theorem d3_allow_49 : decode c3_allow 49 = .ok (.goto 4, 3) := by decide +kernel
theorem d3_allow_52 : decode c3_allow 52 = .ok (.iconst 0, 1) := by decide +kernel
theorem d3_allow_53 : decode c3_allow 53 = .ok (.ireturn, 1) := by decide +kernel
def t3_allow (l : Launch) (Po : ri_O) : List ri_S := [i_al 1 0,
  i_il 2 1,
  i_il 3 2,
  i_callV 4 3 3 (ri_Ev l y3_lookAt w3_lookAt r3_lookAt 0 0) 0 0 0 0,
  i_al 5 0,
  i_callV 6 1 3 (ri_Ev l y3_breaks7 w3_breaks7 r3_breaks7 0 0) 0 0 0 0,
  i_if 7 24 (fun x => ¬ x = 0),
  i_al 8 0,
  i_callV 9 1 3 (ri_Ev l y3_breaks10 w3_breaks10 r3_breaks10 0 0) 0 0 0 0,
  i_if 10 24 (fun x => ¬ x = 0),
  i_al 11 0,
  i_callV 12 1 3 (ri_Ev l y3_breaks9 w3_breaks9 r3_breaks9 0 0) 0 0 0 0,
  i_if 13 24 (fun x => ¬ x = 0),
  i_al 14 0,
  i_callV 15 1 3 (ri_Ev l y3_breaks8 w3_breaks8 r3_breaks8 0 0) 0 0 0 0,
  i_if 16 24 (fun x => ¬ x = 0),
  i_al 17 0,
  i_callV 18 1 3 (ri_Ev l y3_breaks11 w3_breaks11 r3_breaks11 0 0) 0 0 0 0,
  i_if 19 24 (fun x => ¬ x = 0),
  i_al 20 0,
  i_callV 21 1 3 (ri_Ev l y3_breaks12 w3_breaks12 r3_breaks12 0 0) 0 0 0 0,
  i_if 22 24 (fun x => ¬ x = 0),
  i_con 23 1,
  i_goto 25,
  i_con 25 0,
  i_zret Po 0 0]
set_option maxRecDepth 20000 in
set_option maxHeartbeats 4000000 in
theorem z3_allow (l : Launch) (Po : ri_O) (p : Program) (e : Env) (s : State) (m : MethodId) (args : Array Value) (below : List Frame) (meth : Method) (c : Code) (D : va_G) (ka : Nat → ClassId) (sa : Nat → Nat) (base : Nat) (X : ri_X p s m args c c3_allow 3 w3_allow "ChoraleSearch$StepRules" D ka sa base) (hret : meth.sig.returnType = (some .boolean)) (hlocks : meth.locks = false) (hname : meth.name = "allow") : ri_clo (ri_W p l e r3_allow s m args below meth c D ka sa base 3 (MQ below (ri_Qc D ka sa base Po) args s 0 0 (fun q => base ≤ q)) p3_allow) (t3_allow l Po) := by
  refine ri_clo_of ?_
  unfold t3_allow
  exact ⟨s_aload_n X d3_allow_0 rfl rfl,
    s_iload_n X d3_allow_1 rfl rfl,
    s_iload_n X d3_allow_2 rfl rfl,
    s_callV ri_NW_ok X (na := 2) (ci := 3) rfl ⟨ri_cB X 2 mgw_564 (List.mem_cons_of_mem _ mgw_6) (List.mem_cons_of_mem _ mgw_561) (by decide +kernel) rfl rfl ⟨by decide, by decide⟩, X.2.2.2.2.1 _ (List.mem_cons_of_mem _ mgw_563), X.2.2.2.2.1 _ (List.mem_cons_of_mem _ mgp_34)⟩ d3_allow_3 rfl,
    s_aload_n X d3_allow_6 rfl rfl,
    s_callV ri_NW_ok X (na := 0) (ci := 3) rfl ⟨ri_cB X 0 mgw_572 (List.mem_cons_of_mem _ mgw_6) (List.mem_cons_of_mem _ mgw_569) (by decide +kernel) rfl rfl ⟨by decide, by decide⟩, X.2.2.2.2.1 _ (List.mem_cons_of_mem _ mgw_571), X.2.2.2.2.1 _ (List.mem_cons_of_mem _ mgp_35)⟩ d3_allow_7 rfl,
    s_if_ne X d3_allow_10 rfl rfl,
    s_aload_n X d3_allow_13 rfl rfl,
    s_callV ri_NW_ok X (na := 0) (ci := 3) rfl ⟨ri_cB X 0 mgw_580 (List.mem_cons_of_mem _ mgw_6) (List.mem_cons_of_mem _ mgw_577) (by decide +kernel) rfl rfl ⟨by decide, by decide⟩, X.2.2.2.2.1 _ (List.mem_cons_of_mem _ mgw_579), X.2.2.2.2.1 _ (List.mem_cons_of_mem _ mgp_37)⟩ d3_allow_14 rfl,
    s_if_ne X d3_allow_17 rfl rfl,
    s_aload_n X d3_allow_20 rfl rfl,
    s_callV ri_NW_ok X (na := 0) (ci := 3) rfl ⟨ri_cB X 0 mgw_584 (List.mem_cons_of_mem _ mgw_6) (List.mem_cons_of_mem _ mgw_581) (by decide +kernel) rfl rfl ⟨by decide, by decide⟩, X.2.2.2.2.1 _ (List.mem_cons_of_mem _ mgw_583), X.2.2.2.2.1 _ (List.mem_cons_of_mem _ mgp_38)⟩ d3_allow_21 rfl,
    s_if_ne X d3_allow_24 rfl rfl,
    s_aload_n X d3_allow_27 rfl rfl,
    s_callV ri_NW_ok X (na := 0) (ci := 3) rfl ⟨ri_cB X 0 mgw_591 (List.mem_cons_of_mem _ mgw_6) (List.mem_cons_of_mem _ mgw_588) (by decide +kernel) rfl rfl ⟨by decide, by decide⟩, X.2.2.2.2.1 _ (List.mem_cons_of_mem _ mgw_590), X.2.2.2.2.1 _ (List.mem_cons_of_mem _ mgp_39)⟩ d3_allow_28 rfl,
    s_if_ne X d3_allow_31 rfl rfl,
    s_aload_n X d3_allow_34 rfl rfl,
    s_callV ri_NW_ok X (na := 0) (ci := 3) rfl ⟨ri_cB X 0 mgw_595 (List.mem_cons_of_mem _ mgw_6) (List.mem_cons_of_mem _ mgw_592) (by decide +kernel) rfl rfl ⟨by decide, by decide⟩, X.2.2.2.2.1 _ (List.mem_cons_of_mem _ mgw_594), X.2.2.2.2.1 _ (List.mem_cons_of_mem _ mgp_40)⟩ d3_allow_35 rfl,
    s_if_ne X d3_allow_38 rfl rfl,
    s_aload_n X d3_allow_41 rfl rfl,
    s_callV ri_NW_ok X (na := 0) (ci := 3) rfl ⟨ri_cB X 0 mgw_603 (List.mem_cons_of_mem _ mgw_6) (List.mem_cons_of_mem _ mgw_600) (by decide +kernel) rfl rfl ⟨by decide, by decide⟩, X.2.2.2.2.1 _ (List.mem_cons_of_mem _ mgw_602), X.2.2.2.2.1 _ (List.mem_cons_of_mem _ mgp_42)⟩ d3_allow_42 rfl,
    s_if_ne X d3_allow_45 rfl rfl,
    s_iconst X d3_allow_48 rfl rfl,
    s_goto X d3_allow_49 rfl,
    s_iconst X d3_allow_52 rfl rfl,
    s_zret X hret hlocks d3_allow_53, trivial⟩
theorem d3_lookAt_0 : decode c3_lookAt 0 = .ok (.aload_n 0, 1) := by decide +kernel
theorem d3_lookAt_1 : decode c3_lookAt 1 = .ok (.iload_n 1, 1) := by decide +kernel
theorem d3_lookAt_2 : decode c3_lookAt 2 = .ok (.invokestatic 45, 3) := by decide +kernel
theorem d3_lookAt_5 : decode c3_lookAt 5 = .ok (.putfield 51, 3) := by decide +kernel
theorem d3_lookAt_8 : decode c3_lookAt 8 = .ok (.aload_n 0, 1) := by decide +kernel
theorem d3_lookAt_9 : decode c3_lookAt 9 = .ok (.iload_n 2, 1) := by decide +kernel
theorem d3_lookAt_10 : decode c3_lookAt 10 = .ok (.invokestatic 45, 3) := by decide +kernel
theorem d3_lookAt_13 : decode c3_lookAt 13 = .ok (.putfield 55, 3) := by decide +kernel
theorem d3_lookAt_16 : decode c3_lookAt 16 = .ok (.iload_n 1, 1) := by decide +kernel
theorem d3_lookAt_17 : decode c3_lookAt 17 = .ok (.aload_n 0, 1) := by decide +kernel
theorem d3_lookAt_18 : decode c3_lookAt 18 = .ok (.getfield 9, 3) := by decide +kernel
theorem d3_lookAt_21 : decode c3_lookAt 21 = .ok (.invokestatic 58, 3) := by decide +kernel
theorem d3_lookAt_24 : decode c3_lookAt 24 = .ok (.iload_n 2, 1) := by decide +kernel
theorem d3_lookAt_25 : decode c3_lookAt 25 = .ok (.aload_n 0, 1) := by decide +kernel
theorem d3_lookAt_26 : decode c3_lookAt 26 = .ok (.getfield 15, 3) := by decide +kernel
theorem d3_lookAt_29 : decode c3_lookAt 29 = .ok (.invokestatic 58, 3) := by decide +kernel
theorem d3_lookAt_32 : decode c3_lookAt 32 = .ok (.return_, 1) := by decide +kernel
def t3_lookAt (l : Launch) (Po : ri_O) : List ri_S := [i_al 1 0,
  i_il 2 1,
  i_call 3 1 (ri_Ev l y11_chordOf w11_chordOf r11_chordOf 0 0) 0 0 0 0,
  i_put 4 3 1 ri_isI,
  i_al 5 0,
  i_il 6 2,
  i_call 7 1 (ri_Ev l y11_chordOf w11_chordOf r11_chordOf 0 0) 0 0 0 0,
  i_put 8 3 2 ri_isI,
  i_il 9 1,
  i_al 10 0,
  i_get 11 3 3,
  i_call 12 2 (ri_Ev l y11_unpack w11_unpack r11_unpack 0 0) 0 0 0 0,
  i_il 13 2,
  i_al 14 0,
  i_get 15 3 4,
  i_call 16 2 (ri_Ev l y11_unpack w11_unpack r11_unpack 0 0) 0 0 0 0,
  i_vret Po 0 0]
set_option maxRecDepth 20000 in
set_option maxHeartbeats 4000000 in
theorem z3_lookAt (l : Launch) (Po : ri_O) (p : Program) (e : Env) (s : State) (m : MethodId) (args : Array Value) (below : List Frame) (meth : Method) (c : Code) (D : va_G) (ka : Nat → ClassId) (sa : Nat → Nat) (base : Nat) (X : ri_X p s m args c c3_lookAt 3 w3_lookAt "ChoraleSearch$StepRules" D ka sa base) (hret : meth.sig.returnType = none) (hlocks : meth.locks = false) (hname : meth.name = "lookAt") : ri_clo (ri_W p l e r3_lookAt s m args below meth c D ka sa base 3 (MQ below (ri_Qc D ka sa base Po) args s 0 0 (fun q => base ≤ q)) p3_lookAt) (t3_lookAt l Po) := by
  refine ri_clo_of ?_
  unfold t3_lookAt
  exact ⟨s_aload_n X d3_lookAt_0 rfl rfl,
    s_iload_n X d3_lookAt_1 rfl rfl,
    s_callSN ri_NW_ok X ⟨ri_cN X 1 mgw_535 (List.mem_cons_of_mem _ mgw_14) (List.mem_of_getElem? (i := 73) rfl) (by decide +kernel) rfl rfl ⟨by decide, by decide⟩, X.2.2.2.2.1 _ (List.mem_cons_of_mem _ mgw_534), trivial⟩ d3_lookAt_2 rfl,
    s_put X (ci := 3) (f := 1) rfl (fun w h => List.mem_cons_of_mem _ (uC_3 w h)) (by decide) tC_3 oC_3 nC_3 rfl ri_ok_int (List.mem_cons_of_mem _ mgw_170) d3_lookAt_5 rfl,
    s_aload_n X d3_lookAt_8 rfl rfl,
    s_iload_n X d3_lookAt_9 rfl rfl,
    s_callSN ri_NW_ok X ⟨ri_cN X 1 mgw_535 (List.mem_cons_of_mem _ mgw_14) (List.mem_of_getElem? (i := 73) rfl) (by decide +kernel) rfl rfl ⟨by decide, by decide⟩, X.2.2.2.2.1 _ (List.mem_cons_of_mem _ mgw_534), trivial⟩ d3_lookAt_10 rfl,
    s_put X (ci := 3) (f := 2) rfl (fun w h => List.mem_cons_of_mem _ (uC_3 w h)) (by decide) tC_3 oC_3 nC_3 rfl ri_ok_int (List.mem_cons_of_mem _ mgw_171) d3_lookAt_13 rfl,
    s_iload_n X d3_lookAt_16 rfl rfl,
    s_aload_n X d3_lookAt_17 rfl rfl,
    s_get X (ci := 3) (f := 3) rfl (fun w h => List.mem_cons_of_mem _ (uC_3 w h)) (by decide) (List.mem_cons_of_mem _ mgw_172) d3_lookAt_18 rfl,
    s_callSN ri_NW_ok X ⟨ri_cN X 2 mgw_568 (List.mem_cons_of_mem _ mgw_14) (List.mem_of_getElem? (i := 74) rfl) (by decide +kernel) rfl rfl ⟨by decide, by decide⟩, X.2.2.2.2.1 _ (List.mem_cons_of_mem _ mgw_567), trivial⟩ d3_lookAt_21 rfl,
    s_iload_n X d3_lookAt_24 rfl rfl,
    s_aload_n X d3_lookAt_25 rfl rfl,
    s_get X (ci := 3) (f := 4) rfl (fun w h => List.mem_cons_of_mem _ (uC_3 w h)) (by decide) (List.mem_cons_of_mem _ mgw_173) d3_lookAt_26 rfl,
    s_callSN ri_NW_ok X ⟨ri_cN X 2 mgw_568 (List.mem_cons_of_mem _ mgw_14) (List.mem_of_getElem? (i := 74) rfl) (by decide +kernel) rfl rfl ⟨by decide, by decide⟩, X.2.2.2.2.1 _ (List.mem_cons_of_mem _ mgw_567), trivial⟩ d3_lookAt_29 rfl,
    s_vret X hret hlocks d3_lookAt_32, trivial⟩
theorem d3_breaks7_0 : decode c3_breaks7 0 = .ok (.aload_n 0, 1) := by decide +kernel
theorem d3_breaks7_1 : decode c3_breaks7 1 = .ok (.getfield 18, 3) := by decide +kernel
theorem d3_breaks7_4 : decode c3_breaks7 4 = .ok (.aload_n 0, 1) := by decide +kernel
theorem d3_breaks7_5 : decode c3_breaks7 5 = .ok (.getfield 51, 3) := by decide +kernel
theorem d3_breaks7_8 : decode c3_breaks7 8 = .ok (.aload_n 0, 1) := by decide +kernel
theorem d3_breaks7_9 : decode c3_breaks7 9 = .ok (.getfield 55, 3) := by decide +kernel
theorem d3_breaks7_12 : decode c3_breaks7 12 = .ok (.invokevirtual 62, 3) := by decide +kernel
theorem d3_breaks7_15 : decode c3_breaks7 15 = .ok (.iconst (-1), 1) := by decide +kernel
theorem d3_breaks7_16 : decode c3_breaks7 16 = .ok (.if_icmp .ne 7, 3) := by decide +kernel
theorem d3_breaks7_19 : decode c3_breaks7 19 = .ok (.iconst 1, 1) := by decide +kernel
theorem d3_breaks7_20 : decode c3_breaks7 20 = .ok (.goto 4, 3) := by decide +kernel
theorem d3_breaks7_23 : decode c3_breaks7 23 = .ok (.iconst 0, 1) := by decide +kernel
theorem d3_breaks7_24 : decode c3_breaks7 24 = .ok (.ireturn, 1) := by decide +kernel
def t3_breaks7 (l : Launch) (Po : ri_O) : List ri_S := [i_al 1 0,
  i_get 2 3 0,
  i_al 3 0,
  i_get 4 3 1,
  i_al 5 0,
  i_get 6 3 2,
  i_callV 7 3 1 (ri_Ev l y1_unitsBetween w1_unitsBetween r1_unitsBetween 0 0) 0 0 0 0,
  i_con 8 (-1),
  i_icmp 9 11 (fun x y => ¬ x = y),
  i_con 10 1,
  i_goto 12,
  i_con 12 0,
  i_zret Po 0 0]
set_option maxRecDepth 20000 in
set_option maxHeartbeats 4000000 in
theorem z3_breaks7 (l : Launch) (Po : ri_O) (p : Program) (e : Env) (s : State) (m : MethodId) (args : Array Value) (below : List Frame) (meth : Method) (c : Code) (D : va_G) (ka : Nat → ClassId) (sa : Nat → Nat) (base : Nat) (X : ri_X p s m args c c3_breaks7 1 w3_breaks7 "ChoraleSearch$StepRules" D ka sa base) (hret : meth.sig.returnType = (some .boolean)) (hlocks : meth.locks = false) (hname : meth.name = "breaks7") : ri_clo (ri_W p l e r3_breaks7 s m args below meth c D ka sa base 1 (MQ below (ri_Qc D ka sa base Po) args s 0 0 (fun q => base ≤ q)) p3_breaks7) (t3_breaks7 l Po) := by
  refine ri_clo_of ?_
  unfold t3_breaks7
  exact ⟨s_aload_n X d3_breaks7_0 rfl rfl,
    s_get X (ci := 3) (f := 0) rfl (fun w h => List.mem_cons_of_mem _ (uC_3 w h)) (by decide) (List.mem_cons_of_mem _ mgw_169) d3_breaks7_1 rfl,
    s_aload_n X d3_breaks7_4 rfl rfl,
    s_get X (ci := 3) (f := 1) rfl (fun w h => List.mem_cons_of_mem _ (uC_3 w h)) (by decide) (List.mem_cons_of_mem _ mgw_170) d3_breaks7_5 rfl,
    s_aload_n X d3_breaks7_8 rfl rfl,
    s_get X (ci := 3) (f := 2) rfl (fun w h => List.mem_cons_of_mem _ (uC_3 w h)) (by decide) (List.mem_cons_of_mem _ mgw_171) d3_breaks7_9 rfl,
    s_callVN ri_NW_ok X (na := 2) (ci := 1) rfl ⟨ri_cN X 2 mgw_576 (List.mem_cons_of_mem _ mgw_3) (List.mem_of_getElem? (i := 75) rfl) (by decide +kernel) rfl rfl ⟨by decide, by decide⟩, X.2.2.2.2.1 _ (List.mem_cons_of_mem _ mgw_575), X.2.2.2.2.1 _ (List.mem_cons_of_mem _ mgp_36)⟩ d3_breaks7_12 rfl,
    s_iconst X d3_breaks7_15 rfl rfl,
    s_icmp_ne X d3_breaks7_16 rfl rfl,
    s_iconst X d3_breaks7_19 rfl rfl,
    s_goto X d3_breaks7_20 rfl,
    s_iconst X d3_breaks7_23 rfl rfl,
    s_zret X hret hlocks d3_breaks7_24, trivial⟩
theorem d3_breaks10_0 : decode c3_breaks10 0 = .ok (.iconst 0, 1) := by decide +kernel
theorem d3_breaks10_1 : decode c3_breaks10 1 = .ok (.istore_n 1, 1) := by decide +kernel
theorem d3_breaks10_2 : decode c3_breaks10 2 = .ok (.iload_n 1, 1) := by decide +kernel
theorem d3_breaks10_3 : decode c3_breaks10 3 = .ok (.iconst 3, 1) := by decide +kernel
theorem d3_breaks10_4 : decode c3_breaks10 4 = .ok (.if_icmp .ge 45, 3) := by decide +kernel
theorem d3_breaks10_7 : decode c3_breaks10 7 = .ok (.aload_n 0, 1) := by decide +kernel
theorem d3_breaks10_8 : decode c3_breaks10 8 = .ok (.getfield 15, 3) := by decide +kernel
theorem d3_breaks10_11 : decode c3_breaks10 11 = .ok (.iload_n 1, 1) := by decide +kernel
theorem d3_breaks10_12 : decode c3_breaks10 12 = .ok (.iconst 1, 1) := by decide +kernel
theorem d3_breaks10_13 : decode c3_breaks10 13 = .ok (.iadd, 1) := by decide +kernel
theorem d3_breaks10_14 : decode c3_breaks10 14 = .ok (.iaload, 1) := by decide +kernel
theorem d3_breaks10_15 : decode c3_breaks10 15 = .ok (.aload_n 0, 1) := by decide +kernel
theorem d3_breaks10_16 : decode c3_breaks10 16 = .ok (.getfield 9, 3) := by decide +kernel
theorem d3_breaks10_19 : decode c3_breaks10 19 = .ok (.iload_n 1, 1) := by decide +kernel
theorem d3_breaks10_20 : decode c3_breaks10 20 = .ok (.iaload, 1) := by decide +kernel
theorem d3_breaks10_21 : decode c3_breaks10 21 = .ok (.if_icmp .gt 20, 3) := by decide +kernel
theorem d3_breaks10_24 : decode c3_breaks10 24 = .ok (.aload_n 0, 1) := by decide +kernel
theorem d3_breaks10_25 : decode c3_breaks10 25 = .ok (.getfield 15, 3) := by decide +kernel
theorem d3_breaks10_28 : decode c3_breaks10 28 = .ok (.iload_n 1, 1) := by decide +kernel
theorem d3_breaks10_29 : decode c3_breaks10 29 = .ok (.iaload, 1) := by decide +kernel
theorem d3_breaks10_30 : decode c3_breaks10 30 = .ok (.aload_n 0, 1) := by decide +kernel
theorem d3_breaks10_31 : decode c3_breaks10 31 = .ok (.getfield 9, 3) := by decide +kernel
theorem d3_breaks10_34 : decode c3_breaks10 34 = .ok (.iload_n 1, 1) := by decide +kernel
theorem d3_breaks10_35 : decode c3_breaks10 35 = .ok (.iconst 1, 1) := by decide +kernel
theorem d3_breaks10_36 : decode c3_breaks10 36 = .ok (.iadd, 1) := by decide +kernel
theorem d3_breaks10_37 : decode c3_breaks10 37 = .ok (.iaload, 1) := by decide +kernel
theorem d3_breaks10_38 : decode c3_breaks10 38 = .ok (.if_icmp .ge 5, 3) := by decide +kernel
theorem d3_breaks10_41 : decode c3_breaks10 41 = .ok (.iconst 1, 1) := by decide +kernel
theorem d3_breaks10_42 : decode c3_breaks10 42 = .ok (.ireturn, 1) := by decide +kernel
theorem d3_breaks10_43 : decode c3_breaks10 43 = .ok (.iinc 1 1, 3) := by decide +kernel
theorem d3_breaks10_46 : decode c3_breaks10 46 = .ok (.goto (-44), 3) := by decide +kernel
theorem d3_breaks10_49 : decode c3_breaks10 49 = .ok (.iconst 0, 1) := by decide +kernel
theorem d3_breaks10_50 : decode c3_breaks10 50 = .ok (.ireturn, 1) := by decide +kernel
def t3_breaks10 (l : Launch) (Po : ri_O) : List ri_S := [i_con 1 0,
  i_is 2 1,
  i_il 3 1,
  i_con 4 3,
  i_icmp 5 31 (fun x y => y ≤ x),
  i_al 6 0,
  i_get 7 3 4,
  i_il 8 1,
  i_con 9 1,
  i_bin 10 (fun x y => x + y),
  i_ald 11 0,
  i_al 12 0,
  i_get 13 3 3,
  i_il 14 1,
  i_ald 15 0,
  i_icmp 16 27 (fun x y => y < x),
  i_al 17 0,
  i_get 18 3 4,
  i_il 19 1,
  i_ald 20 0,
  i_al 21 0,
  i_get 22 3 3,
  i_il 23 1,
  i_con 24 1,
  i_bin 25 (fun x y => x + y),
  i_ald 26 0,
  i_icmp 27 29 (fun x y => y ≤ x),
  i_con 28 1,
  i_zret Po 0 0,
  i_inc 30 1 1,
  i_goto 2,
  i_con 32 0,
  i_zret Po 0 0]
set_option maxRecDepth 20000 in
set_option maxHeartbeats 4000000 in
theorem z3_breaks10 (l : Launch) (Po : ri_O) (p : Program) (e : Env) (s : State) (m : MethodId) (args : Array Value) (below : List Frame) (meth : Method) (c : Code) (D : va_G) (ka : Nat → ClassId) (sa : Nat → Nat) (base : Nat) (X : ri_X p s m args c c3_breaks10 2 w3_breaks10 "ChoraleSearch$StepRules" D ka sa base) (hret : meth.sig.returnType = (some .boolean)) (hlocks : meth.locks = false) (hname : meth.name = "breaks10") : ri_clo (ri_W p l e r3_breaks10 s m args below meth c D ka sa base 2 (MQ below (ri_Qc D ka sa base Po) args s 0 0 (fun q => base ≤ q)) p3_breaks10) (t3_breaks10 l Po) := by
  refine ri_clo_of ?_
  unfold t3_breaks10
  exact ⟨s_iconst X d3_breaks10_0 rfl rfl,
    s_istore_n X d3_breaks10_1 rfl (by decide) rfl,
    s_iload_n X d3_breaks10_2 rfl rfl,
    s_iconst X d3_breaks10_3 rfl rfl,
    s_icmp_ge X d3_breaks10_4 rfl rfl,
    s_aload_n X d3_breaks10_7 rfl rfl,
    s_get X (ci := 3) (f := 4) rfl (fun w h => List.mem_cons_of_mem _ (uC_3 w h)) (by decide) (List.mem_cons_of_mem _ mgw_173) d3_breaks10_8 rfl,
    s_iload_n X d3_breaks10_11 rfl rfl,
    s_iconst X d3_breaks10_12 rfl rfl,
    s_iadd X d3_breaks10_13 rfl,
    s_iald X rfl d3_breaks10_14 rfl,
    s_aload_n X d3_breaks10_15 rfl rfl,
    s_get X (ci := 3) (f := 3) rfl (fun w h => List.mem_cons_of_mem _ (uC_3 w h)) (by decide) (List.mem_cons_of_mem _ mgw_172) d3_breaks10_16 rfl,
    s_iload_n X d3_breaks10_19 rfl rfl,
    s_iald X rfl d3_breaks10_20 rfl,
    s_icmp_gt X d3_breaks10_21 rfl rfl,
    s_aload_n X d3_breaks10_24 rfl rfl,
    s_get X (ci := 3) (f := 4) rfl (fun w h => List.mem_cons_of_mem _ (uC_3 w h)) (by decide) (List.mem_cons_of_mem _ mgw_173) d3_breaks10_25 rfl,
    s_iload_n X d3_breaks10_28 rfl rfl,
    s_iald X rfl d3_breaks10_29 rfl,
    s_aload_n X d3_breaks10_30 rfl rfl,
    s_get X (ci := 3) (f := 3) rfl (fun w h => List.mem_cons_of_mem _ (uC_3 w h)) (by decide) (List.mem_cons_of_mem _ mgw_172) d3_breaks10_31 rfl,
    s_iload_n X d3_breaks10_34 rfl rfl,
    s_iconst X d3_breaks10_35 rfl rfl,
    s_iadd X d3_breaks10_36 rfl,
    s_iald X rfl d3_breaks10_37 rfl,
    s_icmp_ge X d3_breaks10_38 rfl rfl,
    s_iconst X d3_breaks10_41 rfl rfl,
    s_zret X hret hlocks d3_breaks10_42,
    s_iinc X d3_breaks10_43 rfl (by decide) rfl,
    s_goto X d3_breaks10_46 rfl,
    s_iconst X d3_breaks10_49 rfl rfl,
    s_zret X hret hlocks d3_breaks10_50, trivial⟩
theorem d3_breaks9_0 : decode c3_breaks9 0 = .ok (.iconst 0, 1) := by decide +kernel
theorem d3_breaks9_1 : decode c3_breaks9 1 = .ok (.istore_n 1, 1) := by decide +kernel
theorem d3_breaks9_2 : decode c3_breaks9 2 = .ok (.iload_n 1, 1) := by decide +kernel
theorem d3_breaks9_3 : decode c3_breaks9 3 = .ok (.iconst 4, 1) := by decide +kernel
theorem d3_breaks9_4 : decode c3_breaks9 4 = .ok (.if_icmp .ge 44, 3) := by decide +kernel
theorem d3_breaks9_7 : decode c3_breaks9 7 = .ok (.aload_n 0, 1) := by decide +kernel
theorem d3_breaks9_8 : decode c3_breaks9 8 = .ok (.getfield 15, 3) := by decide +kernel
theorem d3_breaks9_11 : decode c3_breaks9 11 = .ok (.iload_n 1, 1) := by decide +kernel
theorem d3_breaks9_12 : decode c3_breaks9 12 = .ok (.iaload, 1) := by decide +kernel
theorem d3_breaks9_13 : decode c3_breaks9 13 = .ok (.aload_n 0, 1) := by decide +kernel
theorem d3_breaks9_14 : decode c3_breaks9 14 = .ok (.getfield 9, 3) := by decide +kernel
theorem d3_breaks9_17 : decode c3_breaks9 17 = .ok (.iload_n 1, 1) := by decide +kernel
theorem d3_breaks9_18 : decode c3_breaks9 18 = .ok (.iaload, 1) := by decide +kernel
theorem d3_breaks9_19 : decode c3_breaks9 19 = .ok (.isub, 1) := by decide +kernel
theorem d3_breaks9_20 : decode c3_breaks9 20 = .ok (.invokestatic 68, 3) := by decide +kernel
theorem d3_breaks9_23 : decode c3_breaks9 23 = .ok (.istore_n 2, 1) := by decide +kernel
theorem d3_breaks9_24 : decode c3_breaks9 24 = .ok (.iload_n 2, 1) := by decide +kernel
theorem d3_breaks9_25 : decode c3_breaks9 25 = .ok (.bipush 12, 2) := by decide +kernel
theorem d3_breaks9_27 : decode c3_breaks9 27 = .ok (.if_icmp .gt 13, 3) := by decide +kernel
theorem d3_breaks9_30 : decode c3_breaks9 30 = .ok (.sipush 5055, 3) := by decide +kernel
theorem d3_breaks9_33 : decode c3_breaks9 33 = .ok (.iload_n 2, 1) := by decide +kernel
theorem d3_breaks9_34 : decode c3_breaks9 34 = .ok (.ishr, 1) := by decide +kernel
theorem d3_breaks9_35 : decode c3_breaks9 35 = .ok (.iconst 1, 1) := by decide +kernel
theorem d3_breaks9_36 : decode c3_breaks9 36 = .ok (.iand, 1) := by decide +kernel
theorem d3_breaks9_37 : decode c3_breaks9 37 = .ok (.ifCond .ne 5, 3) := by decide +kernel
theorem d3_breaks9_40 : decode c3_breaks9 40 = .ok (.iconst 1, 1) := by decide +kernel
theorem d3_breaks9_41 : decode c3_breaks9 41 = .ok (.ireturn, 1) := by decide +kernel
theorem d3_breaks9_42 : decode c3_breaks9 42 = .ok (.iinc 1 1, 3) := by decide +kernel
theorem d3_breaks9_45 : decode c3_breaks9 45 = .ok (.goto (-43), 3) := by decide +kernel
theorem d3_breaks9_48 : decode c3_breaks9 48 = .ok (.iconst 0, 1) := by decide +kernel
theorem d3_breaks9_49 : decode c3_breaks9 49 = .ok (.ireturn, 1) := by decide +kernel
def t3_breaks9 (l : Launch) (Po : ri_O) : List ri_S := [i_con 1 0,
  i_is 2 1,
  i_il 3 1,
  i_con 4 4,
  i_icmp 5 29 (fun x y => y ≤ x),
  i_al 6 0,
  i_get 7 3 4,
  i_il 8 1,
  i_ald 9 0,
  i_al 10 0,
  i_get 11 3 3,
  i_il 12 1,
  i_ald 13 0,
  i_bin 14 (fun x y => x - y),
  i_m1 15 (fun x => if 0 ≤ x then x else 0 - x) 1 21 0 0,
  i_is 16 2,
  i_il 17 2,
  i_con 18 12,
  i_icmp 19 25 (fun x y => y < x),
  i_con 20 5055,
  i_il 21 2,
  i_bin 22 (fun x y => x >>> (y &&& 31)),
  i_con 23 1,
  i_bin 24 (fun x y => x &&& y),
  i_if 25 27 (fun x => ¬ x = 0),
  i_con 26 1,
  i_zret Po 0 0,
  i_inc 28 1 1,
  i_goto 2,
  i_con 30 0,
  i_zret Po 0 0]
set_option maxRecDepth 20000 in
set_option maxHeartbeats 4000000 in
theorem z3_breaks9 (l : Launch) (Po : ri_O) (p : Program) (e : Env) (s : State) (m : MethodId) (args : Array Value) (below : List Frame) (meth : Method) (c : Code) (D : va_G) (ka : Nat → ClassId) (sa : Nat → Nat) (base : Nat) (X : ri_X p s m args c c3_breaks9 3 w3_breaks9 "ChoraleSearch$StepRules" D ka sa base) (hret : meth.sig.returnType = (some .boolean)) (hlocks : meth.locks = false) (hname : meth.name = "breaks9") : ri_clo (ri_W p l e r3_breaks9 s m args below meth c D ka sa base 3 (MQ below (ri_Qc D ka sa base Po) args s 0 0 (fun q => base ≤ q)) p3_breaks9) (t3_breaks9 l Po) := by
  refine ri_clo_of ?_
  unfold t3_breaks9
  exact ⟨s_iconst X d3_breaks9_0 rfl rfl,
    s_istore_n X d3_breaks9_1 rfl (by decide) rfl,
    s_iload_n X d3_breaks9_2 rfl rfl,
    s_iconst X d3_breaks9_3 rfl rfl,
    s_icmp_ge X d3_breaks9_4 rfl rfl,
    s_aload_n X d3_breaks9_7 rfl rfl,
    s_get X (ci := 3) (f := 4) rfl (fun w h => List.mem_cons_of_mem _ (uC_3 w h)) (by decide) (List.mem_cons_of_mem _ mgw_173) d3_breaks9_8 rfl,
    s_iload_n X d3_breaks9_11 rfl rfl,
    s_iald X rfl d3_breaks9_12 rfl,
    s_aload_n X d3_breaks9_13 rfl rfl,
    s_get X (ci := 3) (f := 3) rfl (fun w h => List.mem_cons_of_mem _ (uC_3 w h)) (by decide) (List.mem_cons_of_mem _ mgw_172) d3_breaks9_14 rfl,
    s_iload_n X d3_breaks9_17 rfl rfl,
    s_iald X rfl d3_breaks9_18 rfl,
    s_isub X d3_breaks9_19 rfl,
    s_abs X (List.mem_cons_of_mem _ mgw_585) (List.mem_cons_of_mem _ mgw_586) (List.mem_cons_of_mem _ mgw_13) (List.mem_cons_of_mem _ mgw_587) d3_breaks9_20 rfl,
    s_istore_n X d3_breaks9_23 rfl (by decide) rfl,
    s_iload_n X d3_breaks9_24 rfl rfl,
    s_bipush X d3_breaks9_25 rfl rfl,
    s_icmp_gt X d3_breaks9_27 rfl rfl,
    s_sipush X d3_breaks9_30 rfl rfl,
    s_iload_n X d3_breaks9_33 rfl rfl,
    s_ishr X d3_breaks9_34 rfl,
    s_iconst X d3_breaks9_35 rfl rfl,
    s_iand X d3_breaks9_36 rfl,
    s_if_ne X d3_breaks9_37 rfl rfl,
    s_iconst X d3_breaks9_40 rfl rfl,
    s_zret X hret hlocks d3_breaks9_41,
    s_iinc X d3_breaks9_42 rfl (by decide) rfl,
    s_goto X d3_breaks9_45 rfl,
    s_iconst X d3_breaks9_48 rfl rfl,
    s_zret X hret hlocks d3_breaks9_49, trivial⟩
theorem d3_breaks8_0 : decode c3_breaks8 0 = .ok (.iconst 0, 1) := by decide +kernel
theorem d3_breaks8_1 : decode c3_breaks8 1 = .ok (.istore_n 1, 1) := by decide +kernel
theorem d3_breaks8_2 : decode c3_breaks8 2 = .ok (.iload_n 1, 1) := by decide +kernel
theorem d3_breaks8_3 : decode c3_breaks8 3 = .ok (.iconst 3, 1) := by decide +kernel
theorem d3_breaks8_4 : decode c3_breaks8 4 = .ok (.if_icmp .ge 103, 3) := by decide +kernel
theorem d3_breaks8_7 : decode c3_breaks8 7 = .ok (.iload_n 1, 1) := by decide +kernel
theorem d3_breaks8_8 : decode c3_breaks8 8 = .ok (.iconst 1, 1) := by decide +kernel
theorem d3_breaks8_9 : decode c3_breaks8 9 = .ok (.iadd, 1) := by decide +kernel
theorem d3_breaks8_10 : decode c3_breaks8 10 = .ok (.istore_n 2, 1) := by decide +kernel
theorem d3_breaks8_11 : decode c3_breaks8 11 = .ok (.iload_n 2, 1) := by decide +kernel
theorem d3_breaks8_12 : decode c3_breaks8 12 = .ok (.iconst 4, 1) := by decide +kernel
theorem d3_breaks8_13 : decode c3_breaks8 13 = .ok (.if_icmp .ge 88, 3) := by decide +kernel
theorem d3_breaks8_16 : decode c3_breaks8 16 = .ok (.aload_n 0, 1) := by decide +kernel
theorem d3_breaks8_17 : decode c3_breaks8 17 = .ok (.getfield 9, 3) := by decide +kernel
theorem d3_breaks8_20 : decode c3_breaks8 20 = .ok (.iload_n 1, 1) := by decide +kernel
theorem d3_breaks8_21 : decode c3_breaks8 21 = .ok (.iaload, 1) := by decide +kernel
theorem d3_breaks8_22 : decode c3_breaks8 22 = .ok (.aload_n 0, 1) := by decide +kernel
theorem d3_breaks8_23 : decode c3_breaks8 23 = .ok (.getfield 9, 3) := by decide +kernel
theorem d3_breaks8_26 : decode c3_breaks8 26 = .ok (.iload_n 2, 1) := by decide +kernel
theorem d3_breaks8_27 : decode c3_breaks8 27 = .ok (.iaload, 1) := by decide +kernel
theorem d3_breaks8_28 : decode c3_breaks8 28 = .ok (.isub, 1) := by decide +kernel
theorem d3_breaks8_29 : decode c3_breaks8 29 = .ok (.bipush 12, 2) := by decide +kernel
theorem d3_breaks8_31 : decode c3_breaks8 31 = .ok (.irem, 1) := by decide +kernel
theorem d3_breaks8_32 : decode c3_breaks8 32 = .ok (.istore_n 3, 1) := by decide +kernel
theorem d3_breaks8_33 : decode c3_breaks8 33 = .ok (.iload_n 3, 1) := by decide +kernel
theorem d3_breaks8_34 : decode c3_breaks8 34 = .ok (.ifCond .eq 9, 3) := by decide +kernel
theorem d3_breaks8_37 : decode c3_breaks8 37 = .ok (.iload_n 3, 1) := by decide +kernel
theorem d3_breaks8_38 : decode c3_breaks8 38 = .ok (.bipush 7, 2) := by decide +kernel
theorem d3_breaks8_40 : decode c3_breaks8 40 = .ok (.if_icmp .ne 55, 3) := by decide +kernel
theorem d3_breaks8_43 : decode c3_breaks8 43 = .ok (.iload_n 3, 1) := by decide +kernel
theorem d3_breaks8_44 : decode c3_breaks8 44 = .ok (.aload_n 0, 1) := by decide +kernel
theorem d3_breaks8_45 : decode c3_breaks8 45 = .ok (.getfield 15, 3) := by decide +kernel
theorem d3_breaks8_48 : decode c3_breaks8 48 = .ok (.iload_n 1, 1) := by decide +kernel
theorem d3_breaks8_49 : decode c3_breaks8 49 = .ok (.iaload, 1) := by decide +kernel
theorem d3_breaks8_50 : decode c3_breaks8 50 = .ok (.aload_n 0, 1) := by decide +kernel
theorem d3_breaks8_51 : decode c3_breaks8 51 = .ok (.getfield 15, 3) := by decide +kernel
theorem d3_breaks8_54 : decode c3_breaks8 54 = .ok (.iload_n 2, 1) := by decide +kernel
theorem d3_breaks8_55 : decode c3_breaks8 55 = .ok (.iaload, 1) := by decide +kernel
theorem d3_breaks8_56 : decode c3_breaks8 56 = .ok (.isub, 1) := by decide +kernel
theorem d3_breaks8_57 : decode c3_breaks8 57 = .ok (.bipush 12, 2) := by decide +kernel
theorem d3_breaks8_59 : decode c3_breaks8 59 = .ok (.irem, 1) := by decide +kernel
theorem d3_breaks8_60 : decode c3_breaks8 60 = .ok (.if_icmp .ne 35, 3) := by decide +kernel
theorem d3_breaks8_63 : decode c3_breaks8 63 = .ok (.aload_n 0, 1) := by decide +kernel
theorem d3_breaks8_64 : decode c3_breaks8 64 = .ok (.getfield 9, 3) := by decide +kernel
theorem d3_breaks8_67 : decode c3_breaks8 67 = .ok (.iload_n 1, 1) := by decide +kernel
theorem d3_breaks8_68 : decode c3_breaks8 68 = .ok (.iaload, 1) := by decide +kernel
theorem d3_breaks8_69 : decode c3_breaks8 69 = .ok (.aload_n 0, 1) := by decide +kernel
theorem d3_breaks8_70 : decode c3_breaks8 70 = .ok (.getfield 15, 3) := by decide +kernel
theorem d3_breaks8_73 : decode c3_breaks8 73 = .ok (.iload_n 1, 1) := by decide +kernel
theorem d3_breaks8_74 : decode c3_breaks8 74 = .ok (.iaload, 1) := by decide +kernel
theorem d3_breaks8_75 : decode c3_breaks8 75 = .ok (.if_icmp .eq 20, 3) := by decide +kernel
theorem d3_breaks8_78 : decode c3_breaks8 78 = .ok (.aload_n 0, 1) := by decide +kernel
theorem d3_breaks8_79 : decode c3_breaks8 79 = .ok (.getfield 9, 3) := by decide +kernel
theorem d3_breaks8_82 : decode c3_breaks8 82 = .ok (.iload_n 2, 1) := by decide +kernel
theorem d3_breaks8_83 : decode c3_breaks8 83 = .ok (.iaload, 1) := by decide +kernel
theorem d3_breaks8_84 : decode c3_breaks8 84 = .ok (.aload_n 0, 1) := by decide +kernel
theorem d3_breaks8_85 : decode c3_breaks8 85 = .ok (.getfield 15, 3) := by decide +kernel
theorem d3_breaks8_88 : decode c3_breaks8 88 = .ok (.iload_n 2, 1) := by decide +kernel
theorem d3_breaks8_89 : decode c3_breaks8 89 = .ok (.iaload, 1) := by decide +kernel
theorem d3_breaks8_90 : decode c3_breaks8 90 = .ok (.if_icmp .eq 5, 3) := by decide +kernel
theorem d3_breaks8_93 : decode c3_breaks8 93 = .ok (.iconst 1, 1) := by decide +kernel
theorem d3_breaks8_94 : decode c3_breaks8 94 = .ok (.ireturn, 1) := by decide +kernel
theorem d3_breaks8_95 : decode c3_breaks8 95 = .ok (.iinc 2 1, 3) := by decide +kernel
theorem d3_breaks8_98 : decode c3_breaks8 98 = .ok (.goto (-87), 3) := by decide +kernel
theorem d3_breaks8_101 : decode c3_breaks8 101 = .ok (.iinc 1 1, 3) := by decide +kernel
theorem d3_breaks8_104 : decode c3_breaks8 104 = .ok (.goto (-102), 3) := by decide +kernel
theorem d3_breaks8_107 : decode c3_breaks8 107 = .ok (.iconst 0, 1) := by decide +kernel
theorem d3_breaks8_108 : decode c3_breaks8 108 = .ok (.ireturn, 1) := by decide +kernel
def t3_breaks8 (l : Launch) (Po : ri_O) : List ri_S := [i_con 1 0,
  i_is 2 1,
  i_il 3 1,
  i_con 4 3,
  i_icmp 5 66 (fun x y => y ≤ x),
  i_il 6 1,
  i_con 7 1,
  i_bin 8 (fun x y => x + y),
  i_is 9 2,
  i_il 10 2,
  i_con 11 4,
  i_icmp 12 64 (fun x y => y ≤ x),
  i_al 13 0,
  i_get 14 3 3,
  i_il 15 1,
  i_ald 16 0,
  i_al 17 0,
  i_get 18 3 3,
  i_il 19 2,
  i_ald 20 0,
  i_bin 21 (fun x y => x - y),
  i_con 22 12,
  i_div 23 (fun x y => x - x / y * y),
  i_is 24 3,
  i_il 25 3,
  i_if 26 29 (fun x => x = 0),
  i_il 27 3,
  i_con 28 7,
  i_icmp 29 62 (fun x y => ¬ x = y),
  i_il 30 3,
  i_al 31 0,
  i_get 32 3 4,
  i_il 33 1,
  i_ald 34 0,
  i_al 35 0,
  i_get 36 3 4,
  i_il 37 2,
  i_ald 38 0,
  i_bin 39 (fun x y => x - y),
  i_con 40 12,
  i_div 41 (fun x y => x - x / y * y),
  i_icmp 42 62 (fun x y => ¬ x = y),
  i_al 43 0,
  i_get 44 3 3,
  i_il 45 1,
  i_ald 46 0,
  i_al 47 0,
  i_get 48 3 4,
  i_il 49 1,
  i_ald 50 0,
  i_icmp 51 62 (fun x y => x = y),
  i_al 52 0,
  i_get 53 3 3,
  i_il 54 2,
  i_ald 55 0,
  i_al 56 0,
  i_get 57 3 4,
  i_il 58 2,
  i_ald 59 0,
  i_icmp 60 62 (fun x y => x = y),
  i_con 61 1,
  i_zret Po 0 0,
  i_inc 63 2 1,
  i_goto 9,
  i_inc 65 1 1,
  i_goto 2,
  i_con 67 0,
  i_zret Po 0 0]
set_option maxRecDepth 20000 in
set_option maxHeartbeats 4000000 in
theorem z3_breaks8 (l : Launch) (Po : ri_O) (p : Program) (e : Env) (s : State) (m : MethodId) (args : Array Value) (below : List Frame) (meth : Method) (c : Code) (D : va_G) (ka : Nat → ClassId) (sa : Nat → Nat) (base : Nat) (X : ri_X p s m args c c3_breaks8 4 w3_breaks8 "ChoraleSearch$StepRules" D ka sa base) (hret : meth.sig.returnType = (some .boolean)) (hlocks : meth.locks = false) (hname : meth.name = "breaks8") : ri_clo (ri_W p l e r3_breaks8 s m args below meth c D ka sa base 4 (MQ below (ri_Qc D ka sa base Po) args s 0 0 (fun q => base ≤ q)) p3_breaks8) (t3_breaks8 l Po) := by
  refine ri_clo_of ?_
  unfold t3_breaks8
  exact ⟨s_iconst X d3_breaks8_0 rfl rfl,
    s_istore_n X d3_breaks8_1 rfl (by decide) rfl,
    s_iload_n X d3_breaks8_2 rfl rfl,
    s_iconst X d3_breaks8_3 rfl rfl,
    s_icmp_ge X d3_breaks8_4 rfl rfl,
    s_iload_n X d3_breaks8_7 rfl rfl,
    s_iconst X d3_breaks8_8 rfl rfl,
    s_iadd X d3_breaks8_9 rfl,
    s_istore_n X d3_breaks8_10 rfl (by decide) rfl,
    s_iload_n X d3_breaks8_11 rfl rfl,
    s_iconst X d3_breaks8_12 rfl rfl,
    s_icmp_ge X d3_breaks8_13 rfl rfl,
    s_aload_n X d3_breaks8_16 rfl rfl,
    s_get X (ci := 3) (f := 3) rfl (fun w h => List.mem_cons_of_mem _ (uC_3 w h)) (by decide) (List.mem_cons_of_mem _ mgw_172) d3_breaks8_17 rfl,
    s_iload_n X d3_breaks8_20 rfl rfl,
    s_iald X rfl d3_breaks8_21 rfl,
    s_aload_n X d3_breaks8_22 rfl rfl,
    s_get X (ci := 3) (f := 3) rfl (fun w h => List.mem_cons_of_mem _ (uC_3 w h)) (by decide) (List.mem_cons_of_mem _ mgw_172) d3_breaks8_23 rfl,
    s_iload_n X d3_breaks8_26 rfl rfl,
    s_iald X rfl d3_breaks8_27 rfl,
    s_isub X d3_breaks8_28 rfl,
    s_bipush X d3_breaks8_29 rfl rfl,
    s_irem X d3_breaks8_31 rfl,
    s_istore_n X d3_breaks8_32 rfl (by decide) rfl,
    s_iload_n X d3_breaks8_33 rfl rfl,
    s_if_eq X d3_breaks8_34 rfl rfl,
    s_iload_n X d3_breaks8_37 rfl rfl,
    s_bipush X d3_breaks8_38 rfl rfl,
    s_icmp_ne X d3_breaks8_40 rfl rfl,
    s_iload_n X d3_breaks8_43 rfl rfl,
    s_aload_n X d3_breaks8_44 rfl rfl,
    s_get X (ci := 3) (f := 4) rfl (fun w h => List.mem_cons_of_mem _ (uC_3 w h)) (by decide) (List.mem_cons_of_mem _ mgw_173) d3_breaks8_45 rfl,
    s_iload_n X d3_breaks8_48 rfl rfl,
    s_iald X rfl d3_breaks8_49 rfl,
    s_aload_n X d3_breaks8_50 rfl rfl,
    s_get X (ci := 3) (f := 4) rfl (fun w h => List.mem_cons_of_mem _ (uC_3 w h)) (by decide) (List.mem_cons_of_mem _ mgw_173) d3_breaks8_51 rfl,
    s_iload_n X d3_breaks8_54 rfl rfl,
    s_iald X rfl d3_breaks8_55 rfl,
    s_isub X d3_breaks8_56 rfl,
    s_bipush X d3_breaks8_57 rfl rfl,
    s_irem X d3_breaks8_59 rfl,
    s_icmp_ne X d3_breaks8_60 rfl rfl,
    s_aload_n X d3_breaks8_63 rfl rfl,
    s_get X (ci := 3) (f := 3) rfl (fun w h => List.mem_cons_of_mem _ (uC_3 w h)) (by decide) (List.mem_cons_of_mem _ mgw_172) d3_breaks8_64 rfl,
    s_iload_n X d3_breaks8_67 rfl rfl,
    s_iald X rfl d3_breaks8_68 rfl,
    s_aload_n X d3_breaks8_69 rfl rfl,
    s_get X (ci := 3) (f := 4) rfl (fun w h => List.mem_cons_of_mem _ (uC_3 w h)) (by decide) (List.mem_cons_of_mem _ mgw_173) d3_breaks8_70 rfl,
    s_iload_n X d3_breaks8_73 rfl rfl,
    s_iald X rfl d3_breaks8_74 rfl,
    s_icmp_eq X d3_breaks8_75 rfl rfl,
    s_aload_n X d3_breaks8_78 rfl rfl,
    s_get X (ci := 3) (f := 3) rfl (fun w h => List.mem_cons_of_mem _ (uC_3 w h)) (by decide) (List.mem_cons_of_mem _ mgw_172) d3_breaks8_79 rfl,
    s_iload_n X d3_breaks8_82 rfl rfl,
    s_iald X rfl d3_breaks8_83 rfl,
    s_aload_n X d3_breaks8_84 rfl rfl,
    s_get X (ci := 3) (f := 4) rfl (fun w h => List.mem_cons_of_mem _ (uC_3 w h)) (by decide) (List.mem_cons_of_mem _ mgw_173) d3_breaks8_85 rfl,
    s_iload_n X d3_breaks8_88 rfl rfl,
    s_iald X rfl d3_breaks8_89 rfl,
    s_icmp_eq X d3_breaks8_90 rfl rfl,
    s_iconst X d3_breaks8_93 rfl rfl,
    s_zret X hret hlocks d3_breaks8_94,
    s_iinc X d3_breaks8_95 rfl (by decide) rfl,
    s_goto X d3_breaks8_98 rfl,
    s_iinc X d3_breaks8_101 rfl (by decide) rfl,
    s_goto X d3_breaks8_104 rfl,
    s_iconst X d3_breaks8_107 rfl rfl,
    s_zret X hret hlocks d3_breaks8_108, trivial⟩
theorem d3_breaks11_0 : decode c3_breaks11 0 = .ok (.aload_n 0, 1) := by decide +kernel
theorem d3_breaks11_1 : decode c3_breaks11 1 = .ok (.getfield 51, 3) := by decide +kernel
theorem d3_breaks11_4 : decode c3_breaks11 4 = .ok (.iconst 4, 1) := by decide +kernel
theorem d3_breaks11_5 : decode c3_breaks11 5 = .ok (.if_icmp .eq 21, 3) := by decide +kernel
theorem d3_breaks11_8 : decode c3_breaks11 8 = .ok (.aload_n 0, 1) := by decide +kernel
theorem d3_breaks11_9 : decode c3_breaks11 9 = .ok (.getfield 51, 3) := by decide +kernel
theorem d3_breaks11_12 : decode c3_breaks11 12 = .ok (.bipush 6, 2) := by decide +kernel
theorem d3_breaks11_14 : decode c3_breaks11 14 = .ok (.if_icmp .eq 12, 3) := by decide +kernel
theorem d3_breaks11_17 : decode c3_breaks11 17 = .ok (.aload_n 0, 1) := by decide +kernel
theorem d3_breaks11_18 : decode c3_breaks11 18 = .ok (.getfield 51, 3) := by decide +kernel
theorem d3_breaks11_21 : decode c3_breaks11 21 = .ok (.bipush 7, 2) := by decide +kernel
theorem d3_breaks11_23 : decode c3_breaks11 23 = .ok (.if_icmp .ne 18, 3) := by decide +kernel
theorem d3_breaks11_26 : decode c3_breaks11 26 = .ok (.aload_n 0, 1) := by decide +kernel
theorem d3_breaks11_27 : decode c3_breaks11 27 = .ok (.getfield 55, 3) := by decide +kernel
theorem d3_breaks11_30 : decode c3_breaks11 30 = .ok (.ifCond .eq 13, 3) := by decide +kernel
theorem d3_breaks11_33 : decode c3_breaks11 33 = .ok (.aload_n 0, 1) := by decide +kernel
theorem d3_breaks11_34 : decode c3_breaks11 34 = .ok (.getfield 55, 3) := by decide +kernel
theorem d3_breaks11_37 : decode c3_breaks11 37 = .ok (.iconst 5, 1) := by decide +kernel
theorem d3_breaks11_38 : decode c3_breaks11 38 = .ok (.if_icmp .eq 5, 3) := by decide +kernel
theorem d3_breaks11_41 : decode c3_breaks11 41 = .ok (.iconst 0, 1) := by decide +kernel
theorem d3_breaks11_42 : decode c3_breaks11 42 = .ok (.ireturn, 1) := by decide +kernel
theorem d3_breaks11_43 : decode c3_breaks11 43 = .ok (.aload_n 0, 1) := by decide +kernel
theorem d3_breaks11_44 : decode c3_breaks11 44 = .ok (.iconst 0, 1) := by decide +kernel
theorem d3_breaks11_45 : decode c3_breaks11 45 = .ok (.invokevirtual 73, 3) := by decide +kernel
theorem d3_breaks11_48 : decode c3_breaks11 48 = .ok (.ifCond .ne 11, 3) := by decide +kernel
theorem d3_breaks11_51 : decode c3_breaks11 51 = .ok (.aload_n 0, 1) := by decide +kernel
theorem d3_breaks11_52 : decode c3_breaks11 52 = .ok (.iconst 3, 1) := by decide +kernel
theorem d3_breaks11_53 : decode c3_breaks11 53 = .ok (.invokevirtual 73, 3) := by decide +kernel
theorem d3_breaks11_56 : decode c3_breaks11 56 = .ok (.ifCond .eq 7, 3) := by decide +kernel
theorem d3_breaks11_59 : decode c3_breaks11 59 = .ok (.iconst 1, 1) := by decide +kernel
theorem d3_breaks11_60 : decode c3_breaks11 60 = .ok (.goto 4, 3) := by decide +kernel
theorem d3_breaks11_63 : decode c3_breaks11 63 = .ok (.iconst 0, 1) := by decide +kernel
theorem d3_breaks11_64 : decode c3_breaks11 64 = .ok (.ireturn, 1) := by decide +kernel
def t3_breaks11 (l : Launch) (Po : ri_O) : List ri_S := [i_al 1 0,
  i_get 2 3 1,
  i_con 3 4,
  i_icmp 4 12 (fun x y => x = y),
  i_al 5 0,
  i_get 6 3 1,
  i_con 7 6,
  i_icmp 8 12 (fun x y => x = y),
  i_al 9 0,
  i_get 10 3 1,
  i_con 11 7,
  i_icmp 12 19 (fun x y => ¬ x = y),
  i_al 13 0,
  i_get 14 3 2,
  i_if 15 21 (fun x => x = 0),
  i_al 16 0,
  i_get 17 3 2,
  i_con 18 5,
  i_icmp 19 21 (fun x y => x = y),
  i_con 20 0,
  i_zret Po 0 0,
  i_al 22 0,
  i_con 23 0,
  i_callV 24 2 3 (ri_Ev l y3_leadsAstray w3_leadsAstray r3_leadsAstray 0 0) 0 0 0 0,
  i_if 25 29 (fun x => ¬ x = 0),
  i_al 26 0,
  i_con 27 3,
  i_callV 28 2 3 (ri_Ev l y3_leadsAstray w3_leadsAstray r3_leadsAstray 0 0) 0 0 0 0,
  i_if 29 31 (fun x => x = 0),
  i_con 30 1,
  i_goto 32,
  i_con 32 0,
  i_zret Po 0 0]
set_option maxRecDepth 20000 in
set_option maxHeartbeats 4000000 in
theorem z3_breaks11 (l : Launch) (Po : ri_O) (p : Program) (e : Env) (s : State) (m : MethodId) (args : Array Value) (below : List Frame) (meth : Method) (c : Code) (D : va_G) (ka : Nat → ClassId) (sa : Nat → Nat) (base : Nat) (X : ri_X p s m args c c3_breaks11 1 w3_breaks11 "ChoraleSearch$StepRules" D ka sa base) (hret : meth.sig.returnType = (some .boolean)) (hlocks : meth.locks = false) (hname : meth.name = "breaks11") : ri_clo (ri_W p l e r3_breaks11 s m args below meth c D ka sa base 1 (MQ below (ri_Qc D ka sa base Po) args s 0 0 (fun q => base ≤ q)) p3_breaks11) (t3_breaks11 l Po) := by
  refine ri_clo_of ?_
  unfold t3_breaks11
  exact ⟨s_aload_n X d3_breaks11_0 rfl rfl,
    s_get X (ci := 3) (f := 1) rfl (fun w h => List.mem_cons_of_mem _ (uC_3 w h)) (by decide) (List.mem_cons_of_mem _ mgw_170) d3_breaks11_1 rfl,
    s_iconst X d3_breaks11_4 rfl rfl,
    s_icmp_eq X d3_breaks11_5 rfl rfl,
    s_aload_n X d3_breaks11_8 rfl rfl,
    s_get X (ci := 3) (f := 1) rfl (fun w h => List.mem_cons_of_mem _ (uC_3 w h)) (by decide) (List.mem_cons_of_mem _ mgw_170) d3_breaks11_9 rfl,
    s_bipush X d3_breaks11_12 rfl rfl,
    s_icmp_eq X d3_breaks11_14 rfl rfl,
    s_aload_n X d3_breaks11_17 rfl rfl,
    s_get X (ci := 3) (f := 1) rfl (fun w h => List.mem_cons_of_mem _ (uC_3 w h)) (by decide) (List.mem_cons_of_mem _ mgw_170) d3_breaks11_18 rfl,
    s_bipush X d3_breaks11_21 rfl rfl,
    s_icmp_ne X d3_breaks11_23 rfl rfl,
    s_aload_n X d3_breaks11_26 rfl rfl,
    s_get X (ci := 3) (f := 2) rfl (fun w h => List.mem_cons_of_mem _ (uC_3 w h)) (by decide) (List.mem_cons_of_mem _ mgw_171) d3_breaks11_27 rfl,
    s_if_eq X d3_breaks11_30 rfl rfl,
    s_aload_n X d3_breaks11_33 rfl rfl,
    s_get X (ci := 3) (f := 2) rfl (fun w h => List.mem_cons_of_mem _ (uC_3 w h)) (by decide) (List.mem_cons_of_mem _ mgw_171) d3_breaks11_34 rfl,
    s_iconst X d3_breaks11_37 rfl rfl,
    s_icmp_eq X d3_breaks11_38 rfl rfl,
    s_iconst X d3_breaks11_41 rfl rfl,
    s_zret X hret hlocks d3_breaks11_42,
    s_aload_n X d3_breaks11_43 rfl rfl,
    s_iconst X d3_breaks11_44 rfl rfl,
    s_callV ri_NW_ok X (na := 1) (ci := 3) rfl ⟨ri_cB X 1 mgw_599 (List.mem_cons_of_mem _ mgw_6) (List.mem_cons_of_mem _ mgw_596) (by decide +kernel) rfl rfl ⟨by decide, by decide⟩, X.2.2.2.2.1 _ (List.mem_cons_of_mem _ mgw_598), X.2.2.2.2.1 _ (List.mem_cons_of_mem _ mgp_41)⟩ d3_breaks11_45 rfl,
    s_if_ne X d3_breaks11_48 rfl rfl,
    s_aload_n X d3_breaks11_51 rfl rfl,
    s_iconst X d3_breaks11_52 rfl rfl,
    s_callV ri_NW_ok X (na := 1) (ci := 3) rfl ⟨ri_cB X 1 mgw_599 (List.mem_cons_of_mem _ mgw_6) (List.mem_cons_of_mem _ mgw_596) (by decide +kernel) rfl rfl ⟨by decide, by decide⟩, X.2.2.2.2.1 _ (List.mem_cons_of_mem _ mgw_598), X.2.2.2.2.1 _ (List.mem_cons_of_mem _ mgp_41)⟩ d3_breaks11_53 rfl,
    s_if_eq X d3_breaks11_56 rfl rfl,
    s_iconst X d3_breaks11_59 rfl rfl,
    s_goto X d3_breaks11_60 rfl,
    s_iconst X d3_breaks11_63 rfl rfl,
    s_zret X hret hlocks d3_breaks11_64, trivial⟩
theorem d3_leadsAstray_0 : decode c3_leadsAstray 0 = .ok (.aload_n 0, 1) := by decide +kernel
theorem d3_leadsAstray_1 : decode c3_leadsAstray 1 = .ok (.getfield 9, 3) := by decide +kernel
theorem d3_leadsAstray_4 : decode c3_leadsAstray 4 = .ok (.iload_n 1, 1) := by decide +kernel
theorem d3_leadsAstray_5 : decode c3_leadsAstray 5 = .ok (.iaload, 1) := by decide +kernel
theorem d3_leadsAstray_6 : decode c3_leadsAstray 6 = .ok (.bipush 12, 2) := by decide +kernel
theorem d3_leadsAstray_8 : decode c3_leadsAstray 8 = .ok (.irem, 1) := by decide +kernel
theorem d3_leadsAstray_9 : decode c3_leadsAstray 9 = .ok (.aload_n 0, 1) := by decide +kernel
theorem d3_leadsAstray_10 : decode c3_leadsAstray 10 = .ok (.getfield 18, 3) := by decide +kernel
theorem d3_leadsAstray_13 : decode c3_leadsAstray 13 = .ok (.getfield 77, 3) := by decide +kernel
theorem d3_leadsAstray_16 : decode c3_leadsAstray 16 = .ok (.if_icmp .ne 24, 3) := by decide +kernel
theorem d3_leadsAstray_19 : decode c3_leadsAstray 19 = .ok (.aload_n 0, 1) := by decide +kernel
theorem d3_leadsAstray_20 : decode c3_leadsAstray 20 = .ok (.getfield 15, 3) := by decide +kernel
theorem d3_leadsAstray_23 : decode c3_leadsAstray 23 = .ok (.iload_n 1, 1) := by decide +kernel
theorem d3_leadsAstray_24 : decode c3_leadsAstray 24 = .ok (.iaload, 1) := by decide +kernel
theorem d3_leadsAstray_25 : decode c3_leadsAstray 25 = .ok (.aload_n 0, 1) := by decide +kernel
theorem d3_leadsAstray_26 : decode c3_leadsAstray 26 = .ok (.getfield 9, 3) := by decide +kernel
theorem d3_leadsAstray_29 : decode c3_leadsAstray 29 = .ok (.iload_n 1, 1) := by decide +kernel
theorem d3_leadsAstray_30 : decode c3_leadsAstray 30 = .ok (.iaload, 1) := by decide +kernel
theorem d3_leadsAstray_31 : decode c3_leadsAstray 31 = .ok (.iconst 1, 1) := by decide +kernel
theorem d3_leadsAstray_32 : decode c3_leadsAstray 32 = .ok (.iadd, 1) := by decide +kernel
theorem d3_leadsAstray_33 : decode c3_leadsAstray 33 = .ok (.if_icmp .eq 7, 3) := by decide +kernel
theorem d3_leadsAstray_36 : decode c3_leadsAstray 36 = .ok (.iconst 1, 1) := by decide +kernel
theorem d3_leadsAstray_37 : decode c3_leadsAstray 37 = .ok (.goto 4, 3) := by decide +kernel
theorem d3_leadsAstray_40 : decode c3_leadsAstray 40 = .ok (.iconst 0, 1) := by decide +kernel
theorem d3_leadsAstray_41 : decode c3_leadsAstray 41 = .ok (.ireturn, 1) := by decide +kernel
def t3_leadsAstray (l : Launch) (Po : ri_O) : List ri_S := [i_al 1 0,
  i_get 2 3 3,
  i_il 3 1,
  i_ald 4 0,
  i_con 5 12,
  i_div 6 (fun x y => x - x / y * y),
  i_al 7 0,
  i_get 8 3 0,
  i_get 9 1 2,
  i_icmp 10 23 (fun x y => ¬ x = y),
  i_al 11 0,
  i_get 12 3 4,
  i_il 13 1,
  i_ald 14 0,
  i_al 15 0,
  i_get 16 3 3,
  i_il 17 1,
  i_ald 18 0,
  i_con 19 1,
  i_bin 20 (fun x y => x + y),
  i_icmp 21 23 (fun x y => x = y),
  i_con 22 1,
  i_goto 24,
  i_con 24 0,
  i_zret Po 0 0]
set_option maxRecDepth 20000 in
set_option maxHeartbeats 4000000 in
theorem z3_leadsAstray (l : Launch) (Po : ri_O) (p : Program) (e : Env) (s : State) (m : MethodId) (args : Array Value) (below : List Frame) (meth : Method) (c : Code) (D : va_G) (ka : Nat → ClassId) (sa : Nat → Nat) (base : Nat) (X : ri_X p s m args c c3_leadsAstray 2 w3_leadsAstray "ChoraleSearch$StepRules" D ka sa base) (hret : meth.sig.returnType = (some .boolean)) (hlocks : meth.locks = false) (hname : meth.name = "leadsAstray") : ri_clo (ri_W p l e r3_leadsAstray s m args below meth c D ka sa base 2 (MQ below (ri_Qc D ka sa base Po) args s 0 0 (fun q => base ≤ q)) p3_leadsAstray) (t3_leadsAstray l Po) := by
  refine ri_clo_of ?_
  unfold t3_leadsAstray
  exact ⟨s_aload_n X d3_leadsAstray_0 rfl rfl,
    s_get X (ci := 3) (f := 3) rfl (fun w h => List.mem_cons_of_mem _ (uC_3 w h)) (by decide) (List.mem_cons_of_mem _ mgw_172) d3_leadsAstray_1 rfl,
    s_iload_n X d3_leadsAstray_4 rfl rfl,
    s_iald X rfl d3_leadsAstray_5 rfl,
    s_bipush X d3_leadsAstray_6 rfl rfl,
    s_irem X d3_leadsAstray_8 rfl,
    s_aload_n X d3_leadsAstray_9 rfl rfl,
    s_get X (ci := 3) (f := 0) rfl (fun w h => List.mem_cons_of_mem _ (uC_3 w h)) (by decide) (List.mem_cons_of_mem _ mgw_169) d3_leadsAstray_10 rfl,
    s_getN X (ci := 1) (f := 2) rfl (fun w h => List.mem_cons_of_mem _ (uC_1 w h)) (by decide) (List.mem_of_getElem? (i := 21) rfl) d3_leadsAstray_13 rfl,
    s_icmp_ne X d3_leadsAstray_16 rfl rfl,
    s_aload_n X d3_leadsAstray_19 rfl rfl,
    s_get X (ci := 3) (f := 4) rfl (fun w h => List.mem_cons_of_mem _ (uC_3 w h)) (by decide) (List.mem_cons_of_mem _ mgw_173) d3_leadsAstray_20 rfl,
    s_iload_n X d3_leadsAstray_23 rfl rfl,
    s_iald X rfl d3_leadsAstray_24 rfl,
    s_aload_n X d3_leadsAstray_25 rfl rfl,
    s_get X (ci := 3) (f := 3) rfl (fun w h => List.mem_cons_of_mem _ (uC_3 w h)) (by decide) (List.mem_cons_of_mem _ mgw_172) d3_leadsAstray_26 rfl,
    s_iload_n X d3_leadsAstray_29 rfl rfl,
    s_iald X rfl d3_leadsAstray_30 rfl,
    s_iconst X d3_leadsAstray_31 rfl rfl,
    s_iadd X d3_leadsAstray_32 rfl,
    s_icmp_eq X d3_leadsAstray_33 rfl rfl,
    s_iconst X d3_leadsAstray_36 rfl rfl,
    s_goto X d3_leadsAstray_37 rfl,
    s_iconst X d3_leadsAstray_40 rfl rfl,
    s_zret X hret hlocks d3_leadsAstray_41, trivial⟩
theorem d3_breaks12_0 : decode c3_breaks12 0 = .ok (.aload_n 0, 1) := by decide +kernel
theorem d3_breaks12_1 : decode c3_breaks12 1 = .ok (.getfield 18, 3) := by decide +kernel
theorem d3_breaks12_4 : decode c3_breaks12 4 = .ok (.aload_n 0, 1) := by decide +kernel
theorem d3_breaks12_5 : decode c3_breaks12 5 = .ok (.getfield 51, 3) := by decide +kernel
theorem d3_breaks12_8 : decode c3_breaks12 8 = .ok (.iconst 3, 1) := by decide +kernel
theorem d3_breaks12_9 : decode c3_breaks12 9 = .ok (.invokevirtual 80, 3) := by decide +kernel
theorem d3_breaks12_12 : decode c3_breaks12 12 = .ok (.istore_n 1, 1) := by decide +kernel
theorem d3_breaks12_13 : decode c3_breaks12 13 = .ok (.iload_n 1, 1) := by decide +kernel
theorem d3_breaks12_14 : decode c3_breaks12 14 = .ok (.bipush (-2), 2) := by decide +kernel
theorem d3_breaks12_16 : decode c3_breaks12 16 = .ok (.if_icmp .eq 14, 3) := by decide +kernel
theorem d3_breaks12_19 : decode c3_breaks12 19 = .ok (.aload_n 0, 1) := by decide +kernel
theorem d3_breaks12_20 : decode c3_breaks12 20 = .ok (.getfield 51, 3) := by decide +kernel
theorem d3_breaks12_23 : decode c3_breaks12 23 = .ok (.aload_n 0, 1) := by decide +kernel
theorem d3_breaks12_24 : decode c3_breaks12 24 = .ok (.getfield 55, 3) := by decide +kernel
theorem d3_breaks12_27 : decode c3_breaks12 27 = .ok (.if_icmp .ne 5, 3) := by decide +kernel
theorem d3_breaks12_30 : decode c3_breaks12 30 = .ok (.iconst 0, 1) := by decide +kernel
theorem d3_breaks12_31 : decode c3_breaks12 31 = .ok (.ireturn, 1) := by decide +kernel
theorem d3_breaks12_32 : decode c3_breaks12 32 = .ok (.iconst 0, 1) := by decide +kernel
theorem d3_breaks12_33 : decode c3_breaks12 33 = .ok (.istore_n 2, 1) := by decide +kernel
theorem d3_breaks12_34 : decode c3_breaks12 34 = .ok (.iload_n 2, 1) := by decide +kernel
theorem d3_breaks12_35 : decode c3_breaks12 35 = .ok (.iconst 4, 1) := by decide +kernel
theorem d3_breaks12_36 : decode c3_breaks12 36 = .ok (.if_icmp .ge 47, 3) := by decide +kernel
theorem d3_breaks12_39 : decode c3_breaks12 39 = .ok (.aload_n 0, 1) := by decide +kernel
theorem d3_breaks12_40 : decode c3_breaks12 40 = .ok (.getfield 9, 3) := by decide +kernel
theorem d3_breaks12_43 : decode c3_breaks12 43 = .ok (.iload_n 2, 1) := by decide +kernel
theorem d3_breaks12_44 : decode c3_breaks12 44 = .ok (.iaload, 1) := by decide +kernel
theorem d3_breaks12_45 : decode c3_breaks12 45 = .ok (.aload_n 0, 1) := by decide +kernel
theorem d3_breaks12_46 : decode c3_breaks12 46 = .ok (.getfield 15, 3) := by decide +kernel
theorem d3_breaks12_49 : decode c3_breaks12 49 = .ok (.iload_n 2, 1) := by decide +kernel
theorem d3_breaks12_50 : decode c3_breaks12 50 = .ok (.iaload, 1) := by decide +kernel
theorem d3_breaks12_51 : decode c3_breaks12 51 = .ok (.isub, 1) := by decide +kernel
theorem d3_breaks12_52 : decode c3_breaks12 52 = .ok (.istore_n 3, 1) := by decide +kernel
theorem d3_breaks12_53 : decode c3_breaks12 53 = .ok (.aload_n 0, 1) := by decide +kernel
theorem d3_breaks12_54 : decode c3_breaks12 54 = .ok (.getfield 9, 3) := by decide +kernel
theorem d3_breaks12_57 : decode c3_breaks12 57 = .ok (.iload_n 2, 1) := by decide +kernel
theorem d3_breaks12_58 : decode c3_breaks12 58 = .ok (.iaload, 1) := by decide +kernel
theorem d3_breaks12_59 : decode c3_breaks12 59 = .ok (.bipush 12, 2) := by decide +kernel
theorem d3_breaks12_61 : decode c3_breaks12 61 = .ok (.irem, 1) := by decide +kernel
theorem d3_breaks12_62 : decode c3_breaks12 62 = .ok (.iload_n 1, 1) := by decide +kernel
theorem d3_breaks12_63 : decode c3_breaks12 63 = .ok (.if_icmp .ne 14, 3) := by decide +kernel
theorem d3_breaks12_66 : decode c3_breaks12 66 = .ok (.iload_n 3, 1) := by decide +kernel
theorem d3_breaks12_67 : decode c3_breaks12 67 = .ok (.ifCond .lt 8, 3) := by decide +kernel
theorem d3_breaks12_70 : decode c3_breaks12 70 = .ok (.iload_n 3, 1) := by decide +kernel
theorem d3_breaks12_71 : decode c3_breaks12 71 = .ok (.iconst 2, 1) := by decide +kernel
theorem d3_breaks12_72 : decode c3_breaks12 72 = .ok (.if_icmp .le 5, 3) := by decide +kernel
theorem d3_breaks12_75 : decode c3_breaks12 75 = .ok (.iconst 1, 1) := by decide +kernel
theorem d3_breaks12_76 : decode c3_breaks12 76 = .ok (.ireturn, 1) := by decide +kernel
theorem d3_breaks12_77 : decode c3_breaks12 77 = .ok (.iinc 2 1, 3) := by decide +kernel
theorem d3_breaks12_80 : decode c3_breaks12 80 = .ok (.goto (-46), 3) := by decide +kernel
theorem d3_breaks12_83 : decode c3_breaks12 83 = .ok (.iconst 0, 1) := by decide +kernel
theorem d3_breaks12_84 : decode c3_breaks12 84 = .ok (.ireturn, 1) := by decide +kernel
def t3_breaks12 (l : Launch) (Po : ri_O) : List ri_S := [i_al 1 0,
  i_get 2 3 0,
  i_al 3 0,
  i_get 4 3 1,
  i_con 5 3,
  i_callV 6 3 1 (ri_Ev l y1_memberClass w1_memberClass r1_memberClass 0 0) 0 0 0 0,
  i_is 7 1,
  i_il 8 1,
  i_con 9 (-2),
  i_icmp 10 15 (fun x y => x = y),
  i_al 11 0,
  i_get 12 3 1,
  i_al 13 0,
  i_get 14 3 2,
  i_icmp 15 17 (fun x y => ¬ x = y),
  i_con 16 0,
  i_zret Po 0 0,
  i_con 18 0,
  i_is 19 2,
  i_il 20 2,
  i_con 21 4,
  i_icmp 22 49 (fun x y => y ≤ x),
  i_al 23 0,
  i_get 24 3 3,
  i_il 25 2,
  i_ald 26 0,
  i_al 27 0,
  i_get 28 3 4,
  i_il 29 2,
  i_ald 30 0,
  i_bin 31 (fun x y => x - y),
  i_is 32 3,
  i_al 33 0,
  i_get 34 3 3,
  i_il 35 2,
  i_ald 36 0,
  i_con 37 12,
  i_div 38 (fun x y => x - x / y * y),
  i_il 39 1,
  i_icmp 40 47 (fun x y => ¬ x = y),
  i_il 41 3,
  i_if 42 45 (fun x => x < 0),
  i_il 43 3,
  i_con 44 2,
  i_icmp 45 47 (fun x y => x ≤ y),
  i_con 46 1,
  i_zret Po 0 0,
  i_inc 48 2 1,
  i_goto 19,
  i_con 50 0,
  i_zret Po 0 0]
set_option maxRecDepth 20000 in
set_option maxHeartbeats 4000000 in
theorem z3_breaks12 (l : Launch) (Po : ri_O) (p : Program) (e : Env) (s : State) (m : MethodId) (args : Array Value) (below : List Frame) (meth : Method) (c : Code) (D : va_G) (ka : Nat → ClassId) (sa : Nat → Nat) (base : Nat) (X : ri_X p s m args c c3_breaks12 4 w3_breaks12 "ChoraleSearch$StepRules" D ka sa base) (hret : meth.sig.returnType = (some .boolean)) (hlocks : meth.locks = false) (hname : meth.name = "breaks12") : ri_clo (ri_W p l e r3_breaks12 s m args below meth c D ka sa base 4 (MQ below (ri_Qc D ka sa base Po) args s 0 0 (fun q => base ≤ q)) p3_breaks12) (t3_breaks12 l Po) := by
  refine ri_clo_of ?_
  unfold t3_breaks12
  exact ⟨s_aload_n X d3_breaks12_0 rfl rfl,
    s_get X (ci := 3) (f := 0) rfl (fun w h => List.mem_cons_of_mem _ (uC_3 w h)) (by decide) (List.mem_cons_of_mem _ mgw_169) d3_breaks12_1 rfl,
    s_aload_n X d3_breaks12_4 rfl rfl,
    s_get X (ci := 3) (f := 1) rfl (fun w h => List.mem_cons_of_mem _ (uC_3 w h)) (by decide) (List.mem_cons_of_mem _ mgw_170) d3_breaks12_5 rfl,
    s_iconst X d3_breaks12_8 rfl rfl,
    s_callVN ri_NW_ok X (na := 2) (ci := 1) rfl ⟨ri_cN X 2 mgw_491 (List.mem_cons_of_mem _ mgw_3) (List.mem_of_getElem? (i := 76) rfl) (by decide +kernel) rfl rfl ⟨by decide, by decide⟩, X.2.2.2.2.1 _ (List.mem_cons_of_mem _ mgw_490), X.2.2.2.2.1 _ (List.mem_cons_of_mem _ mgp_22)⟩ d3_breaks12_9 rfl,
    s_istore_n X d3_breaks12_12 rfl (by decide) rfl,
    s_iload_n X d3_breaks12_13 rfl rfl,
    s_bipush X d3_breaks12_14 rfl rfl,
    s_icmp_eq X d3_breaks12_16 rfl rfl,
    s_aload_n X d3_breaks12_19 rfl rfl,
    s_get X (ci := 3) (f := 1) rfl (fun w h => List.mem_cons_of_mem _ (uC_3 w h)) (by decide) (List.mem_cons_of_mem _ mgw_170) d3_breaks12_20 rfl,
    s_aload_n X d3_breaks12_23 rfl rfl,
    s_get X (ci := 3) (f := 2) rfl (fun w h => List.mem_cons_of_mem _ (uC_3 w h)) (by decide) (List.mem_cons_of_mem _ mgw_171) d3_breaks12_24 rfl,
    s_icmp_ne X d3_breaks12_27 rfl rfl,
    s_iconst X d3_breaks12_30 rfl rfl,
    s_zret X hret hlocks d3_breaks12_31,
    s_iconst X d3_breaks12_32 rfl rfl,
    s_istore_n X d3_breaks12_33 rfl (by decide) rfl,
    s_iload_n X d3_breaks12_34 rfl rfl,
    s_iconst X d3_breaks12_35 rfl rfl,
    s_icmp_ge X d3_breaks12_36 rfl rfl,
    s_aload_n X d3_breaks12_39 rfl rfl,
    s_get X (ci := 3) (f := 3) rfl (fun w h => List.mem_cons_of_mem _ (uC_3 w h)) (by decide) (List.mem_cons_of_mem _ mgw_172) d3_breaks12_40 rfl,
    s_iload_n X d3_breaks12_43 rfl rfl,
    s_iald X rfl d3_breaks12_44 rfl,
    s_aload_n X d3_breaks12_45 rfl rfl,
    s_get X (ci := 3) (f := 4) rfl (fun w h => List.mem_cons_of_mem _ (uC_3 w h)) (by decide) (List.mem_cons_of_mem _ mgw_173) d3_breaks12_46 rfl,
    s_iload_n X d3_breaks12_49 rfl rfl,
    s_iald X rfl d3_breaks12_50 rfl,
    s_isub X d3_breaks12_51 rfl,
    s_istore_n X d3_breaks12_52 rfl (by decide) rfl,
    s_aload_n X d3_breaks12_53 rfl rfl,
    s_get X (ci := 3) (f := 3) rfl (fun w h => List.mem_cons_of_mem _ (uC_3 w h)) (by decide) (List.mem_cons_of_mem _ mgw_172) d3_breaks12_54 rfl,
    s_iload_n X d3_breaks12_57 rfl rfl,
    s_iald X rfl d3_breaks12_58 rfl,
    s_bipush X d3_breaks12_59 rfl rfl,
    s_irem X d3_breaks12_61 rfl,
    s_iload_n X d3_breaks12_62 rfl rfl,
    s_icmp_ne X d3_breaks12_63 rfl rfl,
    s_iload_n X d3_breaks12_66 rfl rfl,
    s_if_lt X d3_breaks12_67 rfl rfl,
    s_iload_n X d3_breaks12_70 rfl rfl,
    s_iconst X d3_breaks12_71 rfl rfl,
    s_icmp_le X d3_breaks12_72 rfl rfl,
    s_iconst X d3_breaks12_75 rfl rfl,
    s_zret X hret hlocks d3_breaks12_76,
    s_iinc X d3_breaks12_77 rfl (by decide) rfl,
    s_goto X d3_breaks12_80 rfl,
    s_iconst X d3_breaks12_83 rfl rfl,
    s_zret X hret hlocks d3_breaks12_84, trivial⟩
theorem d7_ofStep_0 : decode c7_ofStep 0 = .ok (.aload_n 0, 1) := by decide +kernel
theorem d7_ofStep_1 : decode c7_ofStep 1 = .ok (.getfield 15, 3) := by decide +kernel
theorem d7_ofStep_4 : decode c7_ofStep 4 = .ok (.iload_n 1, 1) := by decide +kernel
theorem d7_ofStep_5 : decode c7_ofStep 5 = .ok (.invokestatic 38, 3) := by decide +kernel
theorem d7_ofStep_8 : decode c7_ofStep 8 = .ok (.iload_n 2, 1) := by decide +kernel
theorem d7_ofStep_9 : decode c7_ofStep 9 = .ok (.invokestatic 38, 3) := by decide +kernel
theorem d7_ofStep_12 : decode c7_ofStep 12 = .ok (.invokevirtual 52, 3) := by decide +kernel
theorem d7_ofStep_15 : decode c7_ofStep 15 = .ok (.istore_n 3, 1) := by decide +kernel
theorem d7_ofStep_16 : decode c7_ofStep 16 = .ok (.aload_n 0, 1) := by decide +kernel
theorem d7_ofStep_17 : decode c7_ofStep 17 = .ok (.getfield 9, 3) := by decide +kernel
theorem d7_ofStep_20 : decode c7_ofStep 20 = .ok (.getfield 19, 3) := by decide +kernel
theorem d7_ofStep_23 : decode c7_ofStep 23 = .ok (.iconst 4, 1) := by decide +kernel
theorem d7_ofStep_24 : decode c7_ofStep 24 = .ok (.iaload, 1) := by decide +kernel
theorem d7_ofStep_25 : decode c7_ofStep 25 = .ok (.iload_n 3, 1) := by decide +kernel
theorem d7_ofStep_26 : decode c7_ofStep 26 = .ok (.imul, 1) := by decide +kernel
theorem d7_ofStep_27 : decode c7_ofStep 27 = .ok (.istore 4, 2) := by decide +kernel
theorem d7_ofStep_29 : decode c7_ofStep 29 = .ok (.iconst 0, 1) := by decide +kernel
theorem d7_ofStep_30 : decode c7_ofStep 30 = .ok (.istore 5, 2) := by decide +kernel
theorem d7_ofStep_32 : decode c7_ofStep 32 = .ok (.iload 5, 2) := by decide +kernel
theorem d7_ofStep_34 : decode c7_ofStep 34 = .ok (.iconst 3, 1) := by decide +kernel
theorem d7_ofStep_35 : decode c7_ofStep 35 = .ok (.if_icmp .ge 40, 3) := by decide +kernel
theorem d7_ofStep_38 : decode c7_ofStep 38 = .ok (.iload 4, 2) := by decide +kernel
theorem d7_ofStep_40 : decode c7_ofStep 40 = .ok (.aload_n 0, 1) := by decide +kernel
theorem d7_ofStep_41 : decode c7_ofStep 41 = .ok (.getfield 9, 3) := by decide +kernel
theorem d7_ofStep_44 : decode c7_ofStep 44 = .ok (.getfield 19, 3) := by decide +kernel
theorem d7_ofStep_47 : decode c7_ofStep 47 = .ok (.iconst 0, 1) := by decide +kernel
theorem d7_ofStep_48 : decode c7_ofStep 48 = .ok (.iaload, 1) := by decide +kernel
theorem d7_ofStep_49 : decode c7_ofStep 49 = .ok (.iconst 0, 1) := by decide +kernel
theorem d7_ofStep_50 : decode c7_ofStep 50 = .ok (.iload_n 1, 1) := by decide +kernel
theorem d7_ofStep_51 : decode c7_ofStep 51 = .ok (.iload_n 2, 1) := by decide +kernel
theorem d7_ofStep_52 : decode c7_ofStep 52 = .ok (.iload 5, 2) := by decide +kernel
theorem d7_ofStep_54 : decode c7_ofStep 54 = .ok (.invokestatic 55, 3) := by decide +kernel
theorem d7_ofStep_57 : decode c7_ofStep 57 = .ok (.invokestatic 59, 3) := by decide +kernel
theorem d7_ofStep_60 : decode c7_ofStep 60 = .ok (.iconst 2, 1) := by decide +kernel
theorem d7_ofStep_61 : decode c7_ofStep 61 = .ok (.isub, 1) := by decide +kernel
theorem d7_ofStep_62 : decode c7_ofStep 62 = .ok (.invokestatic 64, 3) := by decide +kernel
theorem d7_ofStep_65 : decode c7_ofStep 65 = .ok (.imul, 1) := by decide +kernel
theorem d7_ofStep_66 : decode c7_ofStep 66 = .ok (.iadd, 1) := by decide +kernel
theorem d7_ofStep_67 : decode c7_ofStep 67 = .ok (.istore 4, 2) := by decide +kernel
theorem d7_ofStep_69 : decode c7_ofStep 69 = .ok (.iinc 5 1, 3) := by decide +kernel
theorem d7_ofStep_72 : decode c7_ofStep 72 = .ok (.goto (-40), 3) := by decide +kernel
theorem d7_ofStep_75 : decode c7_ofStep 75 = .ok (.iload_n 1, 1) := by decide +kernel
theorem d7_ofStep_76 : decode c7_ofStep 76 = .ok (.iload_n 2, 1) := by decide +kernel
theorem d7_ofStep_77 : decode c7_ofStep 77 = .ok (.iconst 3, 1) := by decide +kernel
theorem d7_ofStep_78 : decode c7_ofStep 78 = .ok (.invokestatic 55, 3) := by decide +kernel
theorem d7_ofStep_81 : decode c7_ofStep 81 = .ok (.istore 5, 2) := by decide +kernel
theorem d7_ofStep_83 : decode c7_ofStep 83 = .ok (.iload 5, 2) := by decide +kernel
theorem d7_ofStep_85 : decode c7_ofStep 85 = .ok (.invokestatic 59, 3) := by decide +kernel
theorem d7_ofStep_88 : decode c7_ofStep 88 = .ok (.bipush 7, 2) := by decide +kernel
theorem d7_ofStep_90 : decode c7_ofStep 90 = .ok (.if_icmp .le 17, 3) := by decide +kernel
theorem d7_ofStep_93 : decode c7_ofStep 93 = .ok (.iload 4, 2) := by decide +kernel
theorem d7_ofStep_95 : decode c7_ofStep 95 = .ok (.aload_n 0, 1) := by decide +kernel
theorem d7_ofStep_96 : decode c7_ofStep 96 = .ok (.getfield 9, 3) := by decide +kernel
theorem d7_ofStep_99 : decode c7_ofStep 99 = .ok (.getfield 19, 3) := by decide +kernel
theorem d7_ofStep_102 : decode c7_ofStep 102 = .ok (.iconst 1, 1) := by decide +kernel
theorem d7_ofStep_103 : decode c7_ofStep 103 = .ok (.iaload, 1) := by decide +kernel
theorem d7_ofStep_104 : decode c7_ofStep 104 = .ok (.iadd, 1) := by decide +kernel
theorem d7_ofStep_105 : decode c7_ofStep 105 = .ok (.istore 4, 2) := by decide +kernel
theorem d7_ofStep_107 : decode c7_ofStep 107 = .ok (.iload_n 2, 1) := by decide +kernel
theorem d7_ofStep_108 : decode c7_ofStep 108 = .ok (.iconst 0, 1) := by decide +kernel
theorem d7_ofStep_109 : decode c7_ofStep 109 = .ok (.invokestatic 43, 3) := by decide +kernel
theorem d7_ofStep_112 : decode c7_ofStep 112 = .ok (.iload_n 2, 1) := by decide +kernel
theorem d7_ofStep_113 : decode c7_ofStep 113 = .ok (.iconst 3, 1) := by decide +kernel
theorem d7_ofStep_114 : decode c7_ofStep 114 = .ok (.invokestatic 43, 3) := by decide +kernel
theorem d7_ofStep_117 : decode c7_ofStep 117 = .ok (.isub, 1) := by decide +kernel
theorem d7_ofStep_118 : decode c7_ofStep 118 = .ok (.istore 6, 2) := by decide +kernel
theorem d7_ofStep_120 : decode c7_ofStep 120 = .ok (.iload_n 1, 1) := by decide +kernel
theorem d7_ofStep_121 : decode c7_ofStep 121 = .ok (.iload_n 2, 1) := by decide +kernel
theorem d7_ofStep_122 : decode c7_ofStep 122 = .ok (.iconst 0, 1) := by decide +kernel
theorem d7_ofStep_123 : decode c7_ofStep 123 = .ok (.invokestatic 55, 3) := by decide +kernel
theorem d7_ofStep_126 : decode c7_ofStep 126 = .ok (.iload 5, 2) := by decide +kernel
theorem d7_ofStep_128 : decode c7_ofStep 128 = .ok (.iload 6, 2) := by decide +kernel
theorem d7_ofStep_130 : decode c7_ofStep 130 = .ok (.bipush 12, 2) := by decide +kernel
theorem d7_ofStep_132 : decode c7_ofStep 132 = .ok (.irem, 1) := by decide +kernel
theorem d7_ofStep_133 : decode c7_ofStep 133 = .ok (.invokestatic 67, 3) := by decide +kernel
theorem d7_ofStep_136 : decode c7_ofStep 136 = .ok (.ifCond .eq 17, 3) := by decide +kernel
theorem d7_ofStep_139 : decode c7_ofStep 139 = .ok (.iload 4, 2) := by decide +kernel
theorem d7_ofStep_141 : decode c7_ofStep 141 = .ok (.aload_n 0, 1) := by decide +kernel
theorem d7_ofStep_142 : decode c7_ofStep 142 = .ok (.getfield 9, 3) := by decide +kernel
theorem d7_ofStep_145 : decode c7_ofStep 145 = .ok (.getfield 19, 3) := by decide +kernel
theorem d7_ofStep_148 : decode c7_ofStep 148 = .ok (.iconst 5, 1) := by decide +kernel
theorem d7_ofStep_149 : decode c7_ofStep 149 = .ok (.iaload, 1) := by decide +kernel
theorem d7_ofStep_150 : decode c7_ofStep 150 = .ok (.iadd, 1) := by decide +kernel
theorem d7_ofStep_151 : decode c7_ofStep 151 = .ok (.istore 4, 2) := by decide +kernel
theorem d7_ofStep_153 : decode c7_ofStep 153 = .ok (.iload_n 1, 1) := by decide +kernel
theorem d7_ofStep_154 : decode c7_ofStep 154 = .ok (.iconst 4, 1) := by decide +kernel
theorem d7_ofStep_155 : decode c7_ofStep 155 = .ok (.ishr, 1) := by decide +kernel
theorem d7_ofStep_156 : decode c7_ofStep 156 = .ok (.iload_n 2, 1) := by decide +kernel
theorem d7_ofStep_157 : decode c7_ofStep 157 = .ok (.iconst 4, 1) := by decide +kernel
theorem d7_ofStep_158 : decode c7_ofStep 158 = .ok (.ishr, 1) := by decide +kernel
theorem d7_ofStep_159 : decode c7_ofStep 159 = .ok (.if_icmp .ne 18, 3) := by decide +kernel
theorem d7_ofStep_162 : decode c7_ofStep 162 = .ok (.iload 4, 2) := by decide +kernel
theorem d7_ofStep_164 : decode c7_ofStep 164 = .ok (.aload_n 0, 1) := by decide +kernel
theorem d7_ofStep_165 : decode c7_ofStep 165 = .ok (.getfield 9, 3) := by decide +kernel
theorem d7_ofStep_168 : decode c7_ofStep 168 = .ok (.getfield 19, 3) := by decide +kernel
theorem d7_ofStep_171 : decode c7_ofStep 171 = .ok (.bipush 7, 2) := by decide +kernel
theorem d7_ofStep_173 : decode c7_ofStep 173 = .ok (.iaload, 1) := by decide +kernel
theorem d7_ofStep_174 : decode c7_ofStep 174 = .ok (.iadd, 1) := by decide +kernel
theorem d7_ofStep_175 : decode c7_ofStep 175 = .ok (.istore 4, 2) := by decide +kernel
theorem d7_ofStep_177 : decode c7_ofStep 177 = .ok (.iload 4, 2) := by decide +kernel
theorem d7_ofStep_179 : decode c7_ofStep 179 = .ok (.ireturn, 1) := by decide +kernel
def t7_ofStep (l : Launch) (Po : ri_O) : List ri_S := [i_al 1 0,
  i_get 2 7 1,
  i_il 3 1,
  i_call 4 1 (ri_Ev l y11_chordOf w11_chordOf r11_chordOf 0 0) 0 0 0 0,
  i_il 5 2,
  i_call 6 1 (ri_Ev l y11_chordOf w11_chordOf r11_chordOf 0 0) 0 0 0 0,
  i_callV 7 3 1 (ri_Ev l y1_unitsBetween w1_unitsBetween r1_unitsBetween 0 0) 0 0 0 0,
  i_is 8 3,
  i_al 9 0,
  i_get 10 7 0,
  i_get 11 0 6,
  i_con 12 4,
  i_ald 13 0,
  i_il 14 3,
  i_bin 15 (fun x y => x * y),
  i_is 16 4,
  i_con 17 0,
  i_is 18 5,
  i_il 19 5,
  i_con 20 3,
  i_icmp 21 41 (fun x y => y ≤ x),
  i_il 22 4,
  i_al 23 0,
  i_get 24 7 0,
  i_get 25 0 6,
  i_con 26 0,
  i_ald 27 0,
  i_con 28 0,
  i_il 29 1,
  i_il 30 2,
  i_il 31 5,
  i_call 32 3 (ri_Ev l y7_move w7_move r7_move 0 0) 0 0 0 0,
  i_m1 33 (fun x => if 0 ≤ x then x else 0 - x) 2 43 0 0,
  i_con 34 2,
  i_bin 35 (fun x y => x - y),
  i_m2 36 (fun x y => if x < y then y else x) 2 43 0 0,
  i_bin 37 (fun x y => x * y),
  i_bin 38 (fun x y => x + y),
  i_is 39 4,
  i_inc 40 5 1,
  i_goto 18,
  i_il 42 1,
  i_il 43 2,
  i_con 44 3,
  i_call 45 3 (ri_Ev l y7_move w7_move r7_move 0 0) 0 0 0 0,
  i_is 46 5,
  i_il 47 5,
  i_m1 48 (fun x => if 0 ≤ x then x else 0 - x) 2 43 0 0,
  i_con 49 7,
  i_icmp 50 58 (fun x y => x ≤ y),
  i_il 51 4,
  i_al 52 0,
  i_get 53 7 0,
  i_get 54 0 6,
  i_con 55 1,
  i_ald 56 0,
  i_bin 57 (fun x y => x + y),
  i_is 58 4,
  i_il 59 2,
  i_con 60 0,
  i_call 61 2 (ri_Ev l y11_pitchOf w11_pitchOf r11_pitchOf 0 0) 0 0 0 0,
  i_il 62 2,
  i_con 63 3,
  i_call 64 2 (ri_Ev l y11_pitchOf w11_pitchOf r11_pitchOf 0 0) 0 0 0 0,
  i_bin 65 (fun x y => x - y),
  i_is 66 6,
  i_il 67 1,
  i_il 68 2,
  i_con 69 0,
  i_call 70 3 (ri_Ev l y7_move w7_move r7_move 0 0) 0 0 0 0,
  i_il 71 5,
  i_il 72 6,
  i_con 73 12,
  i_div 74 (fun x y => x - x / y * y),
  i_call 75 3 (ri_Ev l y7_isHidden w7_isHidden r7_isHidden 0 0) 0 0 0 0,
  i_if 76 84 (fun x => x = 0),
  i_il 77 4,
  i_al 78 0,
  i_get 79 7 0,
  i_get 80 0 6,
  i_con 81 5,
  i_ald 82 0,
  i_bin 83 (fun x y => x + y),
  i_is 84 4,
  i_il 85 1,
  i_con 86 4,
  i_bin 87 (fun x y => x >>> (y &&& 31)),
  i_il 88 2,
  i_con 89 4,
  i_bin 90 (fun x y => x >>> (y &&& 31)),
  i_icmp 91 99 (fun x y => ¬ x = y),
  i_il 92 4,
  i_al 93 0,
  i_get 94 7 0,
  i_get 95 0 6,
  i_con 96 7,
  i_ald 97 0,
  i_bin 98 (fun x y => x + y),
  i_is 99 4,
  i_il 100 4,
  i_ret Po 0 0]
set_option maxRecDepth 20000 in
set_option maxHeartbeats 4000000 in
theorem z7_ofStep (l : Launch) (Po : ri_O) (p : Program) (e : Env) (s : State) (m : MethodId) (args : Array Value) (below : List Frame) (meth : Method) (c : Code) (D : va_G) (ka : Nat → ClassId) (sa : Nat → Nat) (base : Nat) (X : ri_X p s m args c c7_ofStep 7 w7_ofStep "ChoraleSearch$Costs" D ka sa base) (hret : meth.sig.returnType = (some .int)) (hlocks : meth.locks = false) (hname : meth.name = "ofStep") : ri_clo (ri_W p l e r7_ofStep s m args below meth c D ka sa base 7 (MQ below (ri_Qc D ka sa base Po) args s 0 0 (fun q => base ≤ q)) p7_ofStep) (t7_ofStep l Po) := by
  refine ri_clo_of ?_
  unfold t7_ofStep
  exact ⟨s_aload_n X d7_ofStep_0 rfl rfl,
    s_get X (ci := 7) (f := 1) rfl (fun w h => List.mem_cons_of_mem _ (uC_7 w h)) (by decide) (List.mem_cons_of_mem _ mgw_264) d7_ofStep_1 rfl,
    s_iload_n X d7_ofStep_4 rfl rfl,
    s_callSN ri_NW_ok X ⟨ri_cN X 1 mgw_535 (List.mem_cons_of_mem _ mgw_14) (List.mem_of_getElem? (i := 66) rfl) (by decide +kernel) rfl rfl ⟨by decide, by decide⟩, X.2.2.2.2.1 _ (List.mem_cons_of_mem _ mgw_534), trivial⟩ d7_ofStep_5 rfl,
    s_iload_n X d7_ofStep_8 rfl rfl,
    s_callSN ri_NW_ok X ⟨ri_cN X 1 mgw_535 (List.mem_cons_of_mem _ mgw_14) (List.mem_of_getElem? (i := 66) rfl) (by decide +kernel) rfl rfl ⟨by decide, by decide⟩, X.2.2.2.2.1 _ (List.mem_cons_of_mem _ mgw_534), trivial⟩ d7_ofStep_9 rfl,
    s_callVN ri_NW_ok X (na := 2) (ci := 1) rfl ⟨ri_cN X 2 mgw_576 (List.mem_cons_of_mem _ mgw_3) (List.mem_of_getElem? (i := 78) rfl) (by decide +kernel) rfl rfl ⟨by decide, by decide⟩, X.2.2.2.2.1 _ (List.mem_cons_of_mem _ mgw_575), X.2.2.2.2.1 _ (List.mem_cons_of_mem _ mgp_36)⟩ d7_ofStep_12 rfl,
    s_istore_n X d7_ofStep_15 rfl (by decide) rfl,
    s_aload_n X d7_ofStep_16 rfl rfl,
    s_get X (ci := 7) (f := 0) rfl (fun w h => List.mem_cons_of_mem _ (uC_7 w h)) (by decide) (List.mem_cons_of_mem _ mgw_263) d7_ofStep_17 rfl,
    s_getN X (ci := 0) (f := 6) rfl (fun w h => List.mem_cons_of_mem _ (uC_0 w h)) (by decide) (List.mem_of_getElem? (i := 13) rfl) d7_ofStep_20 rfl,
    s_iconst X d7_ofStep_23 rfl rfl,
    s_iald X rfl d7_ofStep_24 rfl,
    s_iload_n X d7_ofStep_25 rfl rfl,
    s_imul X d7_ofStep_26 rfl,
    s_istore X d7_ofStep_27 (by decide) rfl,
    s_iconst X d7_ofStep_29 rfl rfl,
    s_istore X d7_ofStep_30 (by decide) rfl,
    s_iload X d7_ofStep_32 rfl,
    s_iconst X d7_ofStep_34 rfl rfl,
    s_icmp_ge X d7_ofStep_35 rfl rfl,
    s_iload X d7_ofStep_38 rfl,
    s_aload_n X d7_ofStep_40 rfl rfl,
    s_get X (ci := 7) (f := 0) rfl (fun w h => List.mem_cons_of_mem _ (uC_7 w h)) (by decide) (List.mem_cons_of_mem _ mgw_263) d7_ofStep_41 rfl,
    s_getN X (ci := 0) (f := 6) rfl (fun w h => List.mem_cons_of_mem _ (uC_0 w h)) (by decide) (List.mem_of_getElem? (i := 13) rfl) d7_ofStep_44 rfl,
    s_iconst X d7_ofStep_47 rfl rfl,
    s_iald X rfl d7_ofStep_48 rfl,
    s_iconst X d7_ofStep_49 rfl rfl,
    s_iload_n X d7_ofStep_50 rfl rfl,
    s_iload_n X d7_ofStep_51 rfl rfl,
    s_iload X d7_ofStep_52 rfl,
    s_callS ri_NW_ok X ⟨ri_cB X 3 mgw_612 (List.mem_cons_of_mem _ mgw_11) (List.mem_cons_of_mem _ mgw_610) (by decide +kernel) rfl rfl ⟨by decide, by decide⟩, X.2.2.2.2.1 _ (List.mem_cons_of_mem _ mgw_611)⟩ d7_ofStep_54 rfl,
    s_abs X (List.mem_cons_of_mem _ mgw_613) (List.mem_cons_of_mem _ mgw_586) (List.mem_cons_of_mem _ mgw_13) (List.mem_cons_of_mem _ mgw_587) d7_ofStep_57 rfl,
    s_iconst X d7_ofStep_60 rfl rfl,
    s_isub X d7_ofStep_61 rfl,
    s_max X (List.mem_cons_of_mem _ mgw_614) (List.mem_cons_of_mem _ mgw_433) (List.mem_cons_of_mem _ mgw_13) (List.mem_cons_of_mem _ mgw_434) d7_ofStep_62 rfl,
    s_imul X d7_ofStep_65 rfl,
    s_iadd X d7_ofStep_66 rfl,
    s_istore X d7_ofStep_67 (by decide) rfl,
    s_iinc X d7_ofStep_69 rfl (by decide) rfl,
    s_goto X d7_ofStep_72 rfl,
    s_iload_n X d7_ofStep_75 rfl rfl,
    s_iload_n X d7_ofStep_76 rfl rfl,
    s_iconst X d7_ofStep_77 rfl rfl,
    s_callS ri_NW_ok X ⟨ri_cB X 3 mgw_612 (List.mem_cons_of_mem _ mgw_11) (List.mem_cons_of_mem _ mgw_610) (by decide +kernel) rfl rfl ⟨by decide, by decide⟩, X.2.2.2.2.1 _ (List.mem_cons_of_mem _ mgw_611)⟩ d7_ofStep_78 rfl,
    s_istore X d7_ofStep_81 (by decide) rfl,
    s_iload X d7_ofStep_83 rfl,
    s_abs X (List.mem_cons_of_mem _ mgw_613) (List.mem_cons_of_mem _ mgw_586) (List.mem_cons_of_mem _ mgw_13) (List.mem_cons_of_mem _ mgw_587) d7_ofStep_85 rfl,
    s_bipush X d7_ofStep_88 rfl rfl,
    s_icmp_le X d7_ofStep_90 rfl rfl,
    s_iload X d7_ofStep_93 rfl,
    s_aload_n X d7_ofStep_95 rfl rfl,
    s_get X (ci := 7) (f := 0) rfl (fun w h => List.mem_cons_of_mem _ (uC_7 w h)) (by decide) (List.mem_cons_of_mem _ mgw_263) d7_ofStep_96 rfl,
    s_getN X (ci := 0) (f := 6) rfl (fun w h => List.mem_cons_of_mem _ (uC_0 w h)) (by decide) (List.mem_of_getElem? (i := 13) rfl) d7_ofStep_99 rfl,
    s_iconst X d7_ofStep_102 rfl rfl,
    s_iald X rfl d7_ofStep_103 rfl,
    s_iadd X d7_ofStep_104 rfl,
    s_istore X d7_ofStep_105 (by decide) rfl,
    s_iload_n X d7_ofStep_107 rfl rfl,
    s_iconst X d7_ofStep_108 rfl rfl,
    s_callSN ri_NW_ok X ⟨ri_cN X 2 mgw_532 (List.mem_cons_of_mem _ mgw_14) (List.mem_of_getElem? (i := 65) rfl) (by decide +kernel) rfl rfl ⟨by decide, by decide⟩, X.2.2.2.2.1 _ (List.mem_cons_of_mem _ mgw_531), trivial⟩ d7_ofStep_109 rfl,
    s_iload_n X d7_ofStep_112 rfl rfl,
    s_iconst X d7_ofStep_113 rfl rfl,
    s_callSN ri_NW_ok X ⟨ri_cN X 2 mgw_532 (List.mem_cons_of_mem _ mgw_14) (List.mem_of_getElem? (i := 65) rfl) (by decide +kernel) rfl rfl ⟨by decide, by decide⟩, X.2.2.2.2.1 _ (List.mem_cons_of_mem _ mgw_531), trivial⟩ d7_ofStep_114 rfl,
    s_isub X d7_ofStep_117 rfl,
    s_istore X d7_ofStep_118 (by decide) rfl,
    s_iload_n X d7_ofStep_120 rfl rfl,
    s_iload_n X d7_ofStep_121 rfl rfl,
    s_iconst X d7_ofStep_122 rfl rfl,
    s_callS ri_NW_ok X ⟨ri_cB X 3 mgw_612 (List.mem_cons_of_mem _ mgw_11) (List.mem_cons_of_mem _ mgw_610) (by decide +kernel) rfl rfl ⟨by decide, by decide⟩, X.2.2.2.2.1 _ (List.mem_cons_of_mem _ mgw_611)⟩ d7_ofStep_123 rfl,
    s_iload X d7_ofStep_126 rfl,
    s_iload X d7_ofStep_128 rfl,
    s_bipush X d7_ofStep_130 rfl rfl,
    s_irem X d7_ofStep_132 rfl,
    s_callS ri_NW_ok X ⟨ri_cB X 3 mgw_617 (List.mem_cons_of_mem _ mgw_11) (List.mem_cons_of_mem _ mgw_615) (by decide +kernel) rfl rfl ⟨by decide, by decide⟩, X.2.2.2.2.1 _ (List.mem_cons_of_mem _ mgw_616)⟩ d7_ofStep_133 rfl,
    s_if_eq X d7_ofStep_136 rfl rfl,
    s_iload X d7_ofStep_139 rfl,
    s_aload_n X d7_ofStep_141 rfl rfl,
    s_get X (ci := 7) (f := 0) rfl (fun w h => List.mem_cons_of_mem _ (uC_7 w h)) (by decide) (List.mem_cons_of_mem _ mgw_263) d7_ofStep_142 rfl,
    s_getN X (ci := 0) (f := 6) rfl (fun w h => List.mem_cons_of_mem _ (uC_0 w h)) (by decide) (List.mem_of_getElem? (i := 13) rfl) d7_ofStep_145 rfl,
    s_iconst X d7_ofStep_148 rfl rfl,
    s_iald X rfl d7_ofStep_149 rfl,
    s_iadd X d7_ofStep_150 rfl,
    s_istore X d7_ofStep_151 (by decide) rfl,
    s_iload_n X d7_ofStep_153 rfl rfl,
    s_iconst X d7_ofStep_154 rfl rfl,
    s_ishr X d7_ofStep_155 rfl,
    s_iload_n X d7_ofStep_156 rfl rfl,
    s_iconst X d7_ofStep_157 rfl rfl,
    s_ishr X d7_ofStep_158 rfl,
    s_icmp_ne X d7_ofStep_159 rfl rfl,
    s_iload X d7_ofStep_162 rfl,
    s_aload_n X d7_ofStep_164 rfl rfl,
    s_get X (ci := 7) (f := 0) rfl (fun w h => List.mem_cons_of_mem _ (uC_7 w h)) (by decide) (List.mem_cons_of_mem _ mgw_263) d7_ofStep_165 rfl,
    s_getN X (ci := 0) (f := 6) rfl (fun w h => List.mem_cons_of_mem _ (uC_0 w h)) (by decide) (List.mem_of_getElem? (i := 13) rfl) d7_ofStep_168 rfl,
    s_bipush X d7_ofStep_171 rfl rfl,
    s_iald X rfl d7_ofStep_173 rfl,
    s_iadd X d7_ofStep_174 rfl,
    s_istore X d7_ofStep_175 (by decide) rfl,
    s_iload X d7_ofStep_177 rfl,
    s_iret X hret hlocks d7_ofStep_179, trivial⟩
theorem d7_move_0 : decode c7_move 0 = .ok (.iload_n 1, 1) := by decide +kernel
theorem d7_move_1 : decode c7_move 1 = .ok (.iload_n 2, 1) := by decide +kernel
theorem d7_move_2 : decode c7_move 2 = .ok (.invokestatic 43, 3) := by decide +kernel
theorem d7_move_5 : decode c7_move 5 = .ok (.iload_n 0, 1) := by decide +kernel
theorem d7_move_6 : decode c7_move 6 = .ok (.iload_n 2, 1) := by decide +kernel
theorem d7_move_7 : decode c7_move 7 = .ok (.invokestatic 43, 3) := by decide +kernel
theorem d7_move_10 : decode c7_move 10 = .ok (.isub, 1) := by decide +kernel
theorem d7_move_11 : decode c7_move 11 = .ok (.ireturn, 1) := by decide +kernel
def t7_move (l : Launch) (Po : ri_O) : List ri_S := [i_il 1 1,
  i_il 2 2,
  i_call 3 2 (ri_Ev l y11_pitchOf w11_pitchOf r11_pitchOf 0 0) 0 0 0 0,
  i_il 4 0,
  i_il 5 2,
  i_call 6 2 (ri_Ev l y11_pitchOf w11_pitchOf r11_pitchOf 0 0) 0 0 0 0,
  i_bin 7 (fun x y => x - y),
  i_ret Po 0 0]
set_option maxRecDepth 20000 in
set_option maxHeartbeats 4000000 in
theorem z7_move (l : Launch) (Po : ri_O) (p : Program) (e : Env) (s : State) (m : MethodId) (args : Array Value) (below : List Frame) (meth : Method) (c : Code) (D : va_G) (ka : Nat → ClassId) (sa : Nat → Nat) (base : Nat) (X : ri_X p s m args c c7_move 3 w7_move "ChoraleSearch$Costs" D ka sa base) (hret : meth.sig.returnType = (some .int)) (hlocks : meth.locks = false) (hname : meth.name = "move") : ri_clo (ri_W p l e r7_move s m args below meth c D ka sa base 3 (MQ below (ri_Qc D ka sa base Po) args s 0 0 (fun q => base ≤ q)) p7_move) (t7_move l Po) := by
  refine ri_clo_of ?_
  unfold t7_move
  exact ⟨s_iload_n X d7_move_0 rfl rfl,
    s_iload_n X d7_move_1 rfl rfl,
    s_callSN ri_NW_ok X ⟨ri_cN X 2 mgw_532 (List.mem_cons_of_mem _ mgw_14) (List.mem_of_getElem? (i := 65) rfl) (by decide +kernel) rfl rfl ⟨by decide, by decide⟩, X.2.2.2.2.1 _ (List.mem_cons_of_mem _ mgw_531), trivial⟩ d7_move_2 rfl,
    s_iload_n X d7_move_5 rfl rfl,
    s_iload_n X d7_move_6 rfl rfl,
    s_callSN ri_NW_ok X ⟨ri_cN X 2 mgw_532 (List.mem_cons_of_mem _ mgw_14) (List.mem_of_getElem? (i := 65) rfl) (by decide +kernel) rfl rfl ⟨by decide, by decide⟩, X.2.2.2.2.1 _ (List.mem_cons_of_mem _ mgw_531), trivial⟩ d7_move_7 rfl,
    s_isub X d7_move_10 rfl,
    s_iret X hret hlocks d7_move_11, trivial⟩
theorem d7_isHidden_0 : decode c7_isHidden 0 = .ok (.iload_n 0, 1) := by decide +kernel
theorem d7_isHidden_1 : decode c7_isHidden 1 = .ok (.iconst 2, 1) := by decide +kernel
theorem d7_isHidden_2 : decode c7_isHidden 2 = .ok (.if_icmp .le 7, 3) := by decide +kernel
theorem d7_isHidden_5 : decode c7_isHidden 5 = .ok (.iload_n 1, 1) := by decide +kernel
theorem d7_isHidden_6 : decode c7_isHidden 6 = .ok (.ifCond .gt 13, 3) := by decide +kernel
theorem d7_isHidden_9 : decode c7_isHidden 9 = .ok (.iload_n 0, 1) := by decide +kernel
theorem d7_isHidden_10 : decode c7_isHidden 10 = .ok (.bipush (-2), 2) := by decide +kernel
theorem d7_isHidden_12 : decode c7_isHidden 12 = .ok (.if_icmp .ge 11, 3) := by decide +kernel
theorem d7_isHidden_15 : decode c7_isHidden 15 = .ok (.iload_n 1, 1) := by decide +kernel
theorem d7_isHidden_16 : decode c7_isHidden 16 = .ok (.ifCond .ge 7, 3) := by decide +kernel
theorem d7_isHidden_19 : decode c7_isHidden 19 = .ok (.iconst 1, 1) := by decide +kernel
theorem d7_isHidden_20 : decode c7_isHidden 20 = .ok (.goto 4, 3) := by decide +kernel
theorem d7_isHidden_23 : decode c7_isHidden 23 = .ok (.iconst 0, 1) := by decide +kernel
theorem d7_isHidden_24 : decode c7_isHidden 24 = .ok (.istore_n 3, 1) := by decide +kernel
theorem d7_isHidden_25 : decode c7_isHidden 25 = .ok (.iload_n 3, 1) := by decide +kernel
theorem d7_isHidden_26 : decode c7_isHidden 26 = .ok (.ifCond .eq 17, 3) := by decide +kernel
theorem d7_isHidden_29 : decode c7_isHidden 29 = .ok (.iload_n 2, 1) := by decide +kernel
theorem d7_isHidden_30 : decode c7_isHidden 30 = .ok (.ifCond .eq 9, 3) := by decide +kernel
theorem d7_isHidden_33 : decode c7_isHidden 33 = .ok (.iload_n 2, 1) := by decide +kernel
theorem d7_isHidden_34 : decode c7_isHidden 34 = .ok (.bipush 7, 2) := by decide +kernel
theorem d7_isHidden_36 : decode c7_isHidden 36 = .ok (.if_icmp .ne 7, 3) := by decide +kernel
theorem d7_isHidden_39 : decode c7_isHidden 39 = .ok (.iconst 1, 1) := by decide +kernel
theorem d7_isHidden_40 : decode c7_isHidden 40 = .ok (.goto 4, 3) := by decide +kernel
theorem d7_isHidden_43 : decode c7_isHidden 43 = .ok (.iconst 0, 1) := by decide +kernel
theorem d7_isHidden_44 : decode c7_isHidden 44 = .ok (.ireturn, 1) := by decide +kernel
def t7_isHidden (l : Launch) (Po : ri_O) : List ri_S := [i_il 1 0,
  i_con 2 2,
  i_icmp 3 5 (fun x y => x ≤ y),
  i_il 4 1,
  i_if 5 10 (fun x => 0 < x),
  i_il 6 0,
  i_con 7 (-2),
  i_icmp 8 12 (fun x y => y ≤ x),
  i_il 9 1,
  i_if 10 12 (fun x => 0 ≤ x),
  i_con 11 1,
  i_goto 13,
  i_con 13 0,
  i_is 14 3,
  i_il 15 3,
  i_if 16 23 (fun x => x = 0),
  i_il 17 2,
  i_if 18 21 (fun x => x = 0),
  i_il 19 2,
  i_con 20 7,
  i_icmp 21 23 (fun x y => ¬ x = y),
  i_con 22 1,
  i_goto 24,
  i_con 24 0,
  i_zret Po 0 0]
set_option maxRecDepth 20000 in
set_option maxHeartbeats 4000000 in
theorem z7_isHidden (l : Launch) (Po : ri_O) (p : Program) (e : Env) (s : State) (m : MethodId) (args : Array Value) (below : List Frame) (meth : Method) (c : Code) (D : va_G) (ka : Nat → ClassId) (sa : Nat → Nat) (base : Nat) (X : ri_X p s m args c c7_isHidden 4 w7_isHidden "ChoraleSearch$Costs" D ka sa base) (hret : meth.sig.returnType = (some .boolean)) (hlocks : meth.locks = false) (hname : meth.name = "isHidden") : ri_clo (ri_W p l e r7_isHidden s m args below meth c D ka sa base 4 (MQ below (ri_Qc D ka sa base Po) args s 0 0 (fun q => base ≤ q)) p7_isHidden) (t7_isHidden l Po) := by
  refine ri_clo_of ?_
  unfold t7_isHidden
  exact ⟨s_iload_n X d7_isHidden_0 rfl rfl,
    s_iconst X d7_isHidden_1 rfl rfl,
    s_icmp_le X d7_isHidden_2 rfl rfl,
    s_iload_n X d7_isHidden_5 rfl rfl,
    s_if_gt X d7_isHidden_6 rfl rfl,
    s_iload_n X d7_isHidden_9 rfl rfl,
    s_bipush X d7_isHidden_10 rfl rfl,
    s_icmp_ge X d7_isHidden_12 rfl rfl,
    s_iload_n X d7_isHidden_15 rfl rfl,
    s_if_ge X d7_isHidden_16 rfl rfl,
    s_iconst X d7_isHidden_19 rfl rfl,
    s_goto X d7_isHidden_20 rfl,
    s_iconst X d7_isHidden_23 rfl rfl,
    s_istore_n X d7_isHidden_24 rfl (by decide) rfl,
    s_iload_n X d7_isHidden_25 rfl rfl,
    s_if_eq X d7_isHidden_26 rfl rfl,
    s_iload_n X d7_isHidden_29 rfl rfl,
    s_if_eq X d7_isHidden_30 rfl rfl,
    s_iload_n X d7_isHidden_33 rfl rfl,
    s_bipush X d7_isHidden_34 rfl rfl,
    s_icmp_ne X d7_isHidden_36 rfl rfl,
    s_iconst X d7_isHidden_39 rfl rfl,
    s_goto X d7_isHidden_40 rfl,
    s_iconst X d7_isHidden_43 rfl rfl,
    s_zret X hret hlocks d7_isHidden_44, trivial⟩
theorem d3_barring_0 : decode c3_barring 0 = .ok (.aload_n 0, 1) := by decide +kernel
theorem d3_barring_1 : decode c3_barring 1 = .ok (.iload_n 1, 1) := by decide +kernel
theorem d3_barring_2 : decode c3_barring 2 = .ok (.iload_n 2, 1) := by decide +kernel
theorem d3_barring_3 : decode c3_barring 3 = .ok (.invokevirtual 22, 3) := by decide +kernel
theorem d3_barring_6 : decode c3_barring 6 = .ok (.aload_n 0, 1) := by decide +kernel
theorem d3_barring_7 : decode c3_barring 7 = .ok (.invokevirtual 26, 3) := by decide +kernel
theorem d3_barring_10 : decode c3_barring 10 = .ok (.ifCond .eq 9, 3) := by decide +kernel
theorem d3_barring_13 : decode c3_barring 13 = .ok (.sipush 128, 3) := by decide +kernel
theorem d3_barring_16 : decode c3_barring 16 = .ok (.goto 4, 3) := by decide +kernel
theorem d3_barring_19 : decode c3_barring 19 = .ok (.iconst 0, 1) := by decide +kernel
theorem d3_barring_20 : decode c3_barring 20 = .ok (.aload_n 0, 1) := by decide +kernel
theorem d3_barring_21 : decode c3_barring 21 = .ok (.invokevirtual 36, 3) := by decide +kernel
theorem d3_barring_24 : decode c3_barring 24 = .ok (.ifCond .eq 9, 3) := by decide +kernel
theorem d3_barring_27 : decode c3_barring 27 = .ok (.sipush 256, 3) := by decide +kernel
theorem d3_barring_30 : decode c3_barring 30 = .ok (.goto 4, 3) := by decide +kernel
theorem d3_barring_33 : decode c3_barring 33 = .ok (.iconst 0, 1) := by decide +kernel
theorem d3_barring_34 : decode c3_barring 34 = .ok (.ior, 1) := by decide +kernel
theorem d3_barring_35 : decode c3_barring 35 = .ok (.aload_n 0, 1) := by decide +kernel
theorem d3_barring_36 : decode c3_barring 36 = .ok (.invokevirtual 33, 3) := by decide +kernel
theorem d3_barring_39 : decode c3_barring 39 = .ok (.ifCond .eq 9, 3) := by decide +kernel
theorem d3_barring_42 : decode c3_barring 42 = .ok (.sipush 512, 3) := by decide +kernel
theorem d3_barring_45 : decode c3_barring 45 = .ok (.goto 4, 3) := by decide +kernel
theorem d3_barring_48 : decode c3_barring 48 = .ok (.iconst 0, 1) := by decide +kernel
theorem d3_barring_49 : decode c3_barring 49 = .ok (.ior, 1) := by decide +kernel
theorem d3_barring_50 : decode c3_barring 50 = .ok (.aload_n 0, 1) := by decide +kernel
theorem d3_barring_51 : decode c3_barring 51 = .ok (.invokevirtual 30, 3) := by decide +kernel
theorem d3_barring_54 : decode c3_barring 54 = .ok (.ifCond .eq 9, 3) := by decide +kernel
theorem d3_barring_57 : decode c3_barring 57 = .ok (.sipush 1024, 3) := by decide +kernel
theorem d3_barring_60 : decode c3_barring 60 = .ok (.goto 4, 3) := by decide +kernel
theorem d3_barring_63 : decode c3_barring 63 = .ok (.iconst 0, 1) := by decide +kernel
theorem d3_barring_64 : decode c3_barring 64 = .ok (.ior, 1) := by decide +kernel
theorem d3_barring_65 : decode c3_barring 65 = .ok (.aload_n 0, 1) := by decide +kernel
theorem d3_barring_66 : decode c3_barring 66 = .ok (.invokevirtual 39, 3) := by decide +kernel
theorem d3_barring_69 : decode c3_barring 69 = .ok (.ifCond .eq 9, 3) := by decide +kernel
theorem d3_barring_72 : decode c3_barring 72 = .ok (.sipush 2048, 3) := by decide +kernel
theorem d3_barring_75 : decode c3_barring 75 = .ok (.goto 4, 3) := by decide +kernel
theorem d3_barring_78 : decode c3_barring 78 = .ok (.iconst 0, 1) := by decide +kernel
theorem d3_barring_79 : decode c3_barring 79 = .ok (.ior, 1) := by decide +kernel
theorem d3_barring_80 : decode c3_barring 80 = .ok (.aload_n 0, 1) := by decide +kernel
theorem d3_barring_81 : decode c3_barring 81 = .ok (.invokevirtual 42, 3) := by decide +kernel
theorem d3_barring_84 : decode c3_barring 84 = .ok (.ifCond .eq 9, 3) := by decide +kernel
theorem d3_barring_87 : decode c3_barring 87 = .ok (.sipush 4096, 3) := by decide +kernel
theorem d3_barring_90 : decode c3_barring 90 = .ok (.goto 4, 3) := by decide +kernel
theorem d3_barring_93 : decode c3_barring 93 = .ok (.iconst 0, 1) := by decide +kernel
theorem d3_barring_94 : decode c3_barring 94 = .ok (.ior, 1) := by decide +kernel
theorem d3_barring_95 : decode c3_barring 95 = .ok (.ireturn, 1) := by decide +kernel
def t3_barring (l : Launch) (Po : ri_O) : List ri_S := [i_al 1 0,
  i_il 2 1,
  i_il 3 2,
  i_callV 4 3 3 (ri_Ev l y3_lookAt w3_lookAt r3_lookAt 0 0) 0 0 0 0,
  i_al 5 0,
  i_callV 6 1 3 (ri_Ev l y3_breaks7 w3_breaks7 r3_breaks7 0 0) 0 0 0 0,
  i_if 7 9 (fun x => x = 0),
  i_con 8 128,
  i_goto 10,
  i_con 10 0,
  i_al 11 0,
  i_callV 12 1 3 (ri_Ev l y3_breaks8 w3_breaks8 r3_breaks8 0 0) 0 0 0 0,
  i_if 13 15 (fun x => x = 0),
  i_con 14 256,
  i_goto 16,
  i_con 16 0,
  i_bin 17 (fun x y => x ||| y),
  i_al 18 0,
  i_callV 19 1 3 (ri_Ev l y3_breaks9 w3_breaks9 r3_breaks9 0 0) 0 0 0 0,
  i_if 20 22 (fun x => x = 0),
  i_con 21 512,
  i_goto 23,
  i_con 23 0,
  i_bin 24 (fun x y => x ||| y),
  i_al 25 0,
  i_callV 26 1 3 (ri_Ev l y3_breaks10 w3_breaks10 r3_breaks10 0 0) 0 0 0 0,
  i_if 27 29 (fun x => x = 0),
  i_con 28 1024,
  i_goto 30,
  i_con 30 0,
  i_bin 31 (fun x y => x ||| y),
  i_al 32 0,
  i_callV 33 1 3 (ri_Ev l y3_breaks11 w3_breaks11 r3_breaks11 0 0) 0 0 0 0,
  i_if 34 36 (fun x => x = 0),
  i_con 35 2048,
  i_goto 37,
  i_con 37 0,
  i_bin 38 (fun x y => x ||| y),
  i_al 39 0,
  i_callV 40 1 3 (ri_Ev l y3_breaks12 w3_breaks12 r3_breaks12 0 0) 0 0 0 0,
  i_if 41 43 (fun x => x = 0),
  i_con 42 4096,
  i_goto 44,
  i_con 44 0,
  i_bin 45 (fun x y => x ||| y),
  i_ret Po 0 0]
set_option maxRecDepth 20000 in
set_option maxHeartbeats 4000000 in
theorem z3_barring (l : Launch) (Po : ri_O) (p : Program) (e : Env) (s : State) (m : MethodId) (args : Array Value) (below : List Frame) (meth : Method) (c : Code) (D : va_G) (ka : Nat → ClassId) (sa : Nat → Nat) (base : Nat) (X : ri_X p s m args c c3_barring 3 w3_barring "ChoraleSearch$StepRules" D ka sa base) (hret : meth.sig.returnType = (some .int)) (hlocks : meth.locks = false) (hname : meth.name = "barring") : ri_clo (ri_W p l e r3_barring s m args below meth c D ka sa base 3 (MQ below (ri_Qc D ka sa base Po) args s 0 0 (fun q => base ≤ q)) p3_barring) (t3_barring l Po) := by
  refine ri_clo_of ?_
  unfold t3_barring
  exact ⟨s_aload_n X d3_barring_0 rfl rfl,
    s_iload_n X d3_barring_1 rfl rfl,
    s_iload_n X d3_barring_2 rfl rfl,
    s_callV ri_NW_ok X (na := 2) (ci := 3) rfl ⟨ri_cB X 2 mgw_564 (List.mem_cons_of_mem _ mgw_6) (List.mem_cons_of_mem _ mgw_561) (by decide +kernel) rfl rfl ⟨by decide, by decide⟩, X.2.2.2.2.1 _ (List.mem_cons_of_mem _ mgw_563), X.2.2.2.2.1 _ (List.mem_cons_of_mem _ mgp_34)⟩ d3_barring_3 rfl,
    s_aload_n X d3_barring_6 rfl rfl,
    s_callV ri_NW_ok X (na := 0) (ci := 3) rfl ⟨ri_cB X 0 mgw_572 (List.mem_cons_of_mem _ mgw_6) (List.mem_cons_of_mem _ mgw_569) (by decide +kernel) rfl rfl ⟨by decide, by decide⟩, X.2.2.2.2.1 _ (List.mem_cons_of_mem _ mgw_571), X.2.2.2.2.1 _ (List.mem_cons_of_mem _ mgp_35)⟩ d3_barring_7 rfl,
    s_if_eq X d3_barring_10 rfl rfl,
    s_sipush X d3_barring_13 rfl rfl,
    s_goto X d3_barring_16 rfl,
    s_iconst X d3_barring_19 rfl rfl,
    s_aload_n X d3_barring_20 rfl rfl,
    s_callV ri_NW_ok X (na := 0) (ci := 3) rfl ⟨ri_cB X 0 mgw_591 (List.mem_cons_of_mem _ mgw_6) (List.mem_cons_of_mem _ mgw_588) (by decide +kernel) rfl rfl ⟨by decide, by decide⟩, X.2.2.2.2.1 _ (List.mem_cons_of_mem _ mgw_590), X.2.2.2.2.1 _ (List.mem_cons_of_mem _ mgp_39)⟩ d3_barring_21 rfl,
    s_if_eq X d3_barring_24 rfl rfl,
    s_sipush X d3_barring_27 rfl rfl,
    s_goto X d3_barring_30 rfl,
    s_iconst X d3_barring_33 rfl rfl,
    s_ior X d3_barring_34 rfl,
    s_aload_n X d3_barring_35 rfl rfl,
    s_callV ri_NW_ok X (na := 0) (ci := 3) rfl ⟨ri_cB X 0 mgw_584 (List.mem_cons_of_mem _ mgw_6) (List.mem_cons_of_mem _ mgw_581) (by decide +kernel) rfl rfl ⟨by decide, by decide⟩, X.2.2.2.2.1 _ (List.mem_cons_of_mem _ mgw_583), X.2.2.2.2.1 _ (List.mem_cons_of_mem _ mgp_38)⟩ d3_barring_36 rfl,
    s_if_eq X d3_barring_39 rfl rfl,
    s_sipush X d3_barring_42 rfl rfl,
    s_goto X d3_barring_45 rfl,
    s_iconst X d3_barring_48 rfl rfl,
    s_ior X d3_barring_49 rfl,
    s_aload_n X d3_barring_50 rfl rfl,
    s_callV ri_NW_ok X (na := 0) (ci := 3) rfl ⟨ri_cB X 0 mgw_580 (List.mem_cons_of_mem _ mgw_6) (List.mem_cons_of_mem _ mgw_577) (by decide +kernel) rfl rfl ⟨by decide, by decide⟩, X.2.2.2.2.1 _ (List.mem_cons_of_mem _ mgw_579), X.2.2.2.2.1 _ (List.mem_cons_of_mem _ mgp_37)⟩ d3_barring_51 rfl,
    s_if_eq X d3_barring_54 rfl rfl,
    s_sipush X d3_barring_57 rfl rfl,
    s_goto X d3_barring_60 rfl,
    s_iconst X d3_barring_63 rfl rfl,
    s_ior X d3_barring_64 rfl,
    s_aload_n X d3_barring_65 rfl rfl,
    s_callV ri_NW_ok X (na := 0) (ci := 3) rfl ⟨ri_cB X 0 mgw_595 (List.mem_cons_of_mem _ mgw_6) (List.mem_cons_of_mem _ mgw_592) (by decide +kernel) rfl rfl ⟨by decide, by decide⟩, X.2.2.2.2.1 _ (List.mem_cons_of_mem _ mgw_594), X.2.2.2.2.1 _ (List.mem_cons_of_mem _ mgp_40)⟩ d3_barring_66 rfl,
    s_if_eq X d3_barring_69 rfl rfl,
    s_sipush X d3_barring_72 rfl rfl,
    s_goto X d3_barring_75 rfl,
    s_iconst X d3_barring_78 rfl rfl,
    s_ior X d3_barring_79 rfl,
    s_aload_n X d3_barring_80 rfl rfl,
    s_callV ri_NW_ok X (na := 0) (ci := 3) rfl ⟨ri_cB X 0 mgw_603 (List.mem_cons_of_mem _ mgw_6) (List.mem_cons_of_mem _ mgw_600) (by decide +kernel) rfl rfl ⟨by decide, by decide⟩, X.2.2.2.2.1 _ (List.mem_cons_of_mem _ mgw_602), X.2.2.2.2.1 _ (List.mem_cons_of_mem _ mgp_42)⟩ d3_barring_81 rfl,
    s_if_eq X d3_barring_84 rfl rfl,
    s_sipush X d3_barring_87 rfl rfl,
    s_goto X d3_barring_90 rfl,
    s_iconst X d3_barring_93 rfl rfl,
    s_ior X d3_barring_94 rfl,
    s_iret X hret hlocks d3_barring_95, trivial⟩
