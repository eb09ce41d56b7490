theorem d8_forget_0 : decode c8_forget 0 = .ok (.aload_n 0, 1) := by decide +kernel
theorem d8_forget_1 : decode c8_forget 1 = .ok (.iconst 0, 1) := by decide +kernel
theorem d8_forget_2 : decode c8_forget 2 = .ok (.putfield 54, 3) := by decide +kernel
theorem d8_forget_5 : decode c8_forget 5 = .ok (.aload_n 0, 1) := by decide +kernel
theorem d8_forget_6 : decode c8_forget 6 = .ok (.iconst 0, 1) := by decide +kernel
theorem d8_forget_7 : decode c8_forget 7 = .ok (.putfield 58, 3) := by decide +kernel
theorem d8_forget_10 : decode c8_forget 10 = .ok (.return_, 1) := by decide +kernel
def t8_forget (l : Launch) (Po : ri_O) : List ri_S := [i_al 1 0,
  i_con 2 0,
  i_put 3 8 13 ri_isI,
  i_al 4 0,
  i_con 5 0,
  i_put 6 8 14 ri_isZ,
  i_vret Po 0 0]
set_option maxRecDepth 20000 in
set_option maxHeartbeats 4000000 in
theorem z8_forget (l : Launch) (Po : ri_O) (p : Program) (e : Env) (s : State) (m : MethodId) (args : Array Value) (below : List Frame) (meth : Method) (c : Code) (D : va_G) (ka : Nat → ClassId) (sa : Nat → Nat) (base : Nat) (X : ri_X p s m args c c8_forget 1 w8_forget "ChoraleSearch$RowSearch" D ka sa base) (hret : meth.sig.returnType = none) (hlocks : meth.locks = false) (hname : meth.name = "forget") : ri_clo (ri_W p l e r8_forget s m args below meth c D ka sa base 1 (MQ below (ri_Qc D ka sa base Po) args s 0 0 (fun q => base ≤ q)) p8_forget) (t8_forget l Po) := by
  refine ri_clo_of ?_
  unfold t8_forget
  exact ⟨s_aload_n X d8_forget_0 rfl rfl,
    s_iconst X d8_forget_1 rfl rfl,
    s_put X (ci := 8) (f := 13) rfl (fun w h => List.mem_cons_of_mem _ (uC_8 w h)) (by decide) tC_8 oC_8 nC_8 rfl ri_ok_int (List.mem_cons_of_mem _ mgw_290) d8_forget_2 rfl,
    s_aload_n X d8_forget_5 rfl rfl,
    s_iconst X d8_forget_6 rfl rfl,
    s_put X (ci := 8) (f := 14) rfl (fun w h => List.mem_cons_of_mem _ (uC_8 w h)) (by decide) tC_8 oC_8 nC_8 rfl ri_ok_bool (List.mem_cons_of_mem _ mgw_292) d8_forget_7 rfl,
    s_vret X hret hlocks d8_forget_10, trivial⟩
theorem d8_run_0 : decode c8_run 0 = .ok (.aload_n 0, 1) := by decide +kernel
theorem d8_run_1 : decode c8_run 1 = .ok (.invokevirtual 62, 3) := by decide +kernel
theorem d8_run_4 : decode c8_run 4 = .ok (.aload_n 0, 1) := by decide +kernel
theorem d8_run_5 : decode c8_run 5 = .ok (.getfield 38, 3) := by decide +kernel
theorem d8_run_8 : decode c8_run 8 = .ok (.getfield 65, 3) := by decide +kernel
theorem d8_run_11 : decode c8_run 11 = .ok (.iconst 1, 1) := by decide +kernel
theorem d8_run_12 : decode c8_run 12 = .ok (.isub, 1) := by decide +kernel
theorem d8_run_13 : decode c8_run 13 = .ok (.istore_n 2, 1) := by decide +kernel
theorem d8_run_14 : decode c8_run 14 = .ok (.iload_n 2, 1) := by decide +kernel
theorem d8_run_15 : decode c8_run 15 = .ok (.ifCond .lt 47, 3) := by decide +kernel
theorem d8_run_18 : decode c8_run 18 = .ok (.aload_n 0, 1) := by decide +kernel
theorem d8_run_19 : decode c8_run 19 = .ok (.getfield 20, 3) := by decide +kernel
theorem d8_run_22 : decode c8_run 22 = .ok (.astore_n 3, 1) := by decide +kernel
theorem d8_run_23 : decode c8_run 23 = .ok (.aload_n 0, 1) := by decide +kernel
theorem d8_run_24 : decode c8_run 24 = .ok (.aload_n 0, 1) := by decide +kernel
theorem d8_run_25 : decode c8_run 25 = .ok (.getfield 16, 3) := by decide +kernel
theorem d8_run_28 : decode c8_run 28 = .ok (.putfield 20, 3) := by decide +kernel
theorem d8_run_31 : decode c8_run 31 = .ok (.aload_n 0, 1) := by decide +kernel
theorem d8_run_32 : decode c8_run 32 = .ok (.aload_n 3, 1) := by decide +kernel
theorem d8_run_33 : decode c8_run 33 = .ok (.putfield 16, 3) := by decide +kernel
theorem d8_run_36 : decode c8_run 36 = .ok (.aload_n 0, 1) := by decide +kernel
theorem d8_run_37 : decode c8_run 37 = .ok (.iload_n 2, 1) := by decide +kernel
theorem d8_run_38 : decode c8_run 38 = .ok (.invokevirtual 70, 3) := by decide +kernel
theorem d8_run_41 : decode c8_run 41 = .ok (.iload_n 1, 1) := by decide +kernel
theorem d8_run_42 : decode c8_run 42 = .ok (.ifCond .le 9, 3) := by decide +kernel
theorem d8_run_45 : decode c8_run 45 = .ok (.aload_n 0, 1) := by decide +kernel
theorem d8_run_46 : decode c8_run 46 = .ok (.iload_n 2, 1) := by decide +kernel
theorem d8_run_47 : decode c8_run 47 = .ok (.iload_n 1, 1) := by decide +kernel
theorem d8_run_48 : decode c8_run 48 = .ok (.invokevirtual 74, 3) := by decide +kernel
theorem d8_run_51 : decode c8_run 51 = .ok (.aload_n 0, 1) := by decide +kernel
theorem d8_run_52 : decode c8_run 52 = .ok (.iload_n 2, 1) := by decide +kernel
theorem d8_run_53 : decode c8_run 53 = .ok (.invokevirtual 78, 3) := by decide +kernel
theorem d8_run_56 : decode c8_run 56 = .ok (.iinc 2 (-1), 3) := by decide +kernel
theorem d8_run_59 : decode c8_run 59 = .ok (.goto (-45), 3) := by decide +kernel
theorem d8_run_62 : decode c8_run 62 = .ok (.aload_n 0, 1) := by decide +kernel
theorem d8_run_63 : decode c8_run 63 = .ok (.invokevirtual 81, 3) := by decide +kernel
theorem d8_run_66 : decode c8_run 66 = .ok (.aload_n 0, 1) := by decide +kernel
theorem d8_run_67 : decode c8_run 67 = .ok (.invokevirtual 84, 3) := by decide +kernel
theorem d8_run_70 : decode c8_run 70 = .ok (.return_, 1) := by decide +kernel
def t8_run (l : Launch) (Po : ri_O) : List ri_S := [i_al 1 0,
  i_callV 2 1 8 (ri_Ev l y8_forget w8_forget r8_forget 0 0) 0 0 0 0,
  i_al 3 0,
  i_get 4 8 0,
  i_get 5 0 0,
  i_con 6 1,
  i_bin 7 (fun x y => x - y),
  i_is 8 2,
  i_il 9 2,
  i_if 10 34 (fun x => x < 0),
  i_al 11 0,
  i_get 12 8 6,
  i_as 13 3,
  i_al 14 0,
  i_al 15 0,
  i_get 16 8 5,
  i_put 17 8 6 ri_isR,
  i_al 18 0,
  i_al 19 3,
  i_put 20 8 5 ri_isR,
  i_al 21 0,
  i_il 22 2,
  i_callV 23 2 8 (ri_Ev l y8_findRests w8_findRests r8_findRests 0 0) 0 0 0 0,
  i_il 24 1,
  i_if 25 29 (fun x => x ≤ 0),
  i_al 26 0,
  i_il 27 2,
  i_il 28 1,
  i_callV 29 3 8 (ri_Ev l y8_narrow w8_narrow r8_narrow 0 0) 0 0 0 0,
  i_al 30 0,
  i_il 31 2,
  i_callV 32 2 8 (ri_Ev l y8_listAlive w8_listAlive r8_listAlive 0 0) 0 0 0 0,
  i_inc 33 2 (-1),
  i_goto 8,
  i_al 35 0,
  i_callV 36 1 8 (ri_Ev l y8_gatherRows w8_gatherRows r8_gatherRows 0 0) 0 0 0 0,
  i_al 37 0,
  i_callV 38 1 8 (ri_Ev l y8_traceRows w8_traceRows r8_traceRows 0 0) 0 0 0 0,
  i_vret Po 0 0]
set_option maxRecDepth 20000 in
set_option maxHeartbeats 4000000 in
theorem z8_run (l : Launch) (Po : ri_O) (p : Program) (e : Env) (s : State) (m : MethodId) (args : Array Value) (below : List Frame) (meth : Method) (c : Code) (D : va_G) (ka : Nat → ClassId) (sa : Nat → Nat) (base : Nat) (X : ri_X p s m args c c8_run 4 w8_run "ChoraleSearch$RowSearch" D ka sa base) (hret : meth.sig.returnType = none) (hlocks : meth.locks = false) (hname : meth.name = "run") : ri_clo (ri_W p l e r8_run s m args below meth c D ka sa base 4 (MQ below (ri_Qc D ka sa base Po) args s 0 0 (fun q => base ≤ q)) p8_run) (t8_run l Po) := by
  refine ri_clo_of ?_
  unfold t8_run
  exact ⟨s_aload_n X d8_run_0 rfl rfl,
    s_callV ri_NW_ok X (na := 0) (ci := 8) rfl ⟨ri_cB X 0 mgw_353 (List.mem_cons_of_mem _ mgw_10) (List.mem_cons_of_mem _ mgw_511) (by decide +kernel) rfl rfl ⟨by decide, by decide⟩, X.2.2.2.2.1 _ (List.mem_cons_of_mem _ mgw_352), X.2.2.2.2.1 _ (List.mem_cons_of_mem _ mgp_4)⟩ d8_run_1 rfl,
    s_aload_n X d8_run_4 rfl rfl,
    s_get X (ci := 8) (f := 0) rfl (fun w h => List.mem_cons_of_mem _ (uC_8 w h)) (by decide) (List.mem_cons_of_mem _ mgw_276) d8_run_5 rfl,
    s_getN X (ci := 0) (f := 0) rfl (fun w h => List.mem_cons_of_mem _ (uC_0 w h)) (by decide) (List.mem_of_getElem? (i := 4) rfl) d8_run_8 rfl,
    s_iconst X d8_run_11 rfl rfl,
    s_isub X d8_run_12 rfl,
    s_istore_n X d8_run_13 rfl (by decide) rfl,
    s_iload_n X d8_run_14 rfl rfl,
    s_if_lt X d8_run_15 rfl rfl,
    s_aload_n X d8_run_18 rfl rfl,
    s_get X (ci := 8) (f := 6) rfl (fun w h => List.mem_cons_of_mem _ (uC_8 w h)) (by decide) (List.mem_cons_of_mem _ mgw_282) d8_run_19 rfl,
    s_astore_n X d8_run_22 rfl (by decide) rfl,
    s_aload_n X d8_run_23 rfl rfl,
    s_aload_n X d8_run_24 rfl rfl,
    s_get X (ci := 8) (f := 5) rfl (fun w h => List.mem_cons_of_mem _ (uC_8 w h)) (by decide) (List.mem_cons_of_mem _ mgw_281) d8_run_25 rfl,
    s_put X (ci := 8) (f := 6) rfl (fun w h => List.mem_cons_of_mem _ (uC_8 w h)) (by decide) tC_8 oC_8 nC_8 rfl ri_ok_arr (List.mem_cons_of_mem _ mgw_282) d8_run_28 rfl,
    s_aload_n X d8_run_31 rfl rfl,
    s_aload_n X d8_run_32 rfl rfl,
    s_put X (ci := 8) (f := 5) rfl (fun w h => List.mem_cons_of_mem _ (uC_8 w h)) (by decide) tC_8 oC_8 nC_8 rfl ri_ok_arr (List.mem_cons_of_mem _ mgw_281) d8_run_33 rfl,
    s_aload_n X d8_run_36 rfl rfl,
    s_iload_n X d8_run_37 rfl rfl,
    s_callV ri_NW_ok X (na := 1) (ci := 8) rfl ⟨ri_cB X 1 mgw_515 (List.mem_cons_of_mem _ mgw_10) (List.mem_cons_of_mem _ mgw_512) (by decide +kernel) rfl rfl ⟨by decide, by decide⟩, X.2.2.2.2.1 _ (List.mem_cons_of_mem _ mgw_514), X.2.2.2.2.1 _ (List.mem_cons_of_mem _ mgp_27)⟩ d8_run_38 rfl,
    s_iload_n X d8_run_41 rfl rfl,
    s_if_le X d8_run_42 rfl rfl,
    s_aload_n X d8_run_45 rfl rfl,
    s_iload_n X d8_run_46 rfl rfl,
    s_iload_n X d8_run_47 rfl rfl,
    s_callV ri_NW_ok X (na := 2) (ci := 8) rfl ⟨ri_cB X 2 mgw_625 (List.mem_cons_of_mem _ mgw_10) (List.mem_cons_of_mem _ mgw_622) (by decide +kernel) rfl rfl ⟨by decide, by decide⟩, X.2.2.2.2.1 _ (List.mem_cons_of_mem _ mgw_624), X.2.2.2.2.1 _ (List.mem_cons_of_mem _ mgp_45)⟩ d8_run_48 rfl,
    s_aload_n X d8_run_51 rfl rfl,
    s_iload_n X d8_run_52 rfl rfl,
    s_callV ri_NW_ok X (na := 1) (ci := 8) rfl ⟨ri_cB X 1 mgw_637 (List.mem_cons_of_mem _ mgw_10) (List.mem_cons_of_mem _ mgw_634) (by decide +kernel) rfl rfl ⟨by decide, by decide⟩, X.2.2.2.2.1 _ (List.mem_cons_of_mem _ mgw_636), X.2.2.2.2.1 _ (List.mem_cons_of_mem _ mgp_48)⟩ d8_run_53 rfl,
    s_iinc X d8_run_56 rfl (by decide) rfl,
    s_goto X d8_run_59 rfl,
    s_aload_n X d8_run_62 rfl rfl,
    s_callV ri_NW_ok X (na := 0) (ci := 8) rfl ⟨ri_cB X 0 mgw_641 (List.mem_cons_of_mem _ mgw_10) (List.mem_cons_of_mem _ mgw_638) (by decide +kernel) rfl rfl ⟨by decide, by decide⟩, X.2.2.2.2.1 _ (List.mem_cons_of_mem _ mgw_640), X.2.2.2.2.1 _ (List.mem_cons_of_mem _ mgp_49)⟩ d8_run_63 rfl,
    s_aload_n X d8_run_66 rfl rfl,
    s_callV ri_NW_ok X (na := 0) (ci := 8) rfl ⟨ri_cB X 0 mgw_645 (List.mem_cons_of_mem _ mgw_10) (List.mem_cons_of_mem _ mgw_642) (by decide +kernel) rfl rfl ⟨by decide, by decide⟩, X.2.2.2.2.1 _ (List.mem_cons_of_mem _ mgw_644), X.2.2.2.2.1 _ (List.mem_cons_of_mem _ mgp_50)⟩ d8_run_67 rfl,
    s_vret X hret hlocks d8_run_70, trivial⟩
theorem d8_findRests_0 : decode c8_findRests 0 = .ok (.aload_n 0, 1) := by decide +kernel
theorem d8_findRests_1 : decode c8_findRests 1 = .ok (.getfield 42, 3) := by decide +kernel
theorem d8_findRests_4 : decode c8_findRests 4 = .ok (.getfield 87, 3) := by decide +kernel
theorem d8_findRests_7 : decode c8_findRests 7 = .ok (.iload_n 1, 1) := by decide +kernel
theorem d8_findRests_8 : decode c8_findRests 8 = .ok (.aaload, 1) := by decide +kernel
theorem d8_findRests_9 : decode c8_findRests 9 = .ok (.astore_n 2, 1) := by decide +kernel
theorem d8_findRests_10 : decode c8_findRests 10 = .ok (.aload_n 0, 1) := by decide +kernel
theorem d8_findRests_11 : decode c8_findRests 11 = .ok (.getfield 11, 3) := by decide +kernel
theorem d8_findRests_14 : decode c8_findRests 14 = .ok (.iload_n 1, 1) := by decide +kernel
theorem d8_findRests_15 : decode c8_findRests 15 = .ok (.aaload, 1) := by decide +kernel
theorem d8_findRests_16 : decode c8_findRests 16 = .ok (.astore_n 3, 1) := by decide +kernel
theorem d8_findRests_17 : decode c8_findRests 17 = .ok (.aload_n 3, 1) := by decide +kernel
theorem d8_findRests_18 : decode c8_findRests 18 = .ok (.iconst (-1), 1) := by decide +kernel
theorem d8_findRests_19 : decode c8_findRests 19 = .ok (.invokestatic 93, 3) := by decide +kernel
theorem d8_findRests_22 : decode c8_findRests 22 = .ok (.iconst 0, 1) := by decide +kernel
theorem d8_findRests_23 : decode c8_findRests 23 = .ok (.istore 4, 2) := by decide +kernel
theorem d8_findRests_25 : decode c8_findRests 25 = .ok (.iload 4, 2) := by decide +kernel
theorem d8_findRests_27 : decode c8_findRests 27 = .ok (.aload_n 2, 1) := by decide +kernel
theorem d8_findRests_28 : decode c8_findRests 28 = .ok (.invokevirtual 99, 3) := by decide +kernel
theorem d8_findRests_31 : decode c8_findRests 31 = .ok (.if_icmp .ge 64, 3) := by decide +kernel
theorem d8_findRests_34 : decode c8_findRests 34 = .ok (.aload_n 0, 1) := by decide +kernel
theorem d8_findRests_35 : decode c8_findRests 35 = .ok (.getfield 50, 3) := by decide +kernel
theorem d8_findRests_38 : decode c8_findRests 38 = .ok (.aload_n 2, 1) := by decide +kernel
theorem d8_findRests_39 : decode c8_findRests 39 = .ok (.getfield 105, 3) := by decide +kernel
theorem d8_findRests_42 : decode c8_findRests 42 = .ok (.iload 4, 2) := by decide +kernel
theorem d8_findRests_44 : decode c8_findRests 44 = .ok (.iaload, 1) := by decide +kernel
theorem d8_findRests_45 : decode c8_findRests 45 = .ok (.invokevirtual 108, 3) := by decide +kernel
theorem d8_findRests_48 : decode c8_findRests 48 = .ok (.istore 5, 2) := by decide +kernel
theorem d8_findRests_50 : decode c8_findRests 50 = .ok (.aload_n 0, 1) := by decide +kernel
theorem d8_findRests_51 : decode c8_findRests 51 = .ok (.getfield 38, 3) := by decide +kernel
theorem d8_findRests_54 : decode c8_findRests 54 = .ok (.iload_n 1, 1) := by decide +kernel
theorem d8_findRests_55 : decode c8_findRests 55 = .ok (.invokevirtual 114, 3) := by decide +kernel
theorem d8_findRests_58 : decode c8_findRests 58 = .ok (.ifCond .eq 22, 3) := by decide +kernel
theorem d8_findRests_61 : decode c8_findRests 61 = .ok (.aload_n 0, 1) := by decide +kernel
theorem d8_findRests_62 : decode c8_findRests 62 = .ok (.getfield 16, 3) := by decide +kernel
theorem d8_findRests_65 : decode c8_findRests 65 = .ok (.aload_n 3, 1) := by decide +kernel
theorem d8_findRests_66 : decode c8_findRests 66 = .ok (.iload 4, 2) := by decide +kernel
theorem d8_findRests_68 : decode c8_findRests 68 = .ok (.iconst 4, 1) := by decide +kernel
theorem d8_findRests_69 : decode c8_findRests 69 = .ok (.imul, 1) := by decide +kernel
theorem d8_findRests_70 : decode c8_findRests 70 = .ok (.iload 5, 2) := by decide +kernel
theorem d8_findRests_72 : decode c8_findRests 72 = .ok (.iconst 0, 1) := by decide +kernel
theorem d8_findRests_73 : decode c8_findRests 73 = .ok (.invokestatic 118, 3) := by decide +kernel
theorem d8_findRests_76 : decode c8_findRests 76 = .ok (.pop, 1) := by decide +kernel
theorem d8_findRests_77 : decode c8_findRests 77 = .ok (.goto 12, 3) := by decide +kernel
theorem d8_findRests_80 : decode c8_findRests 80 = .ok (.aload_n 0, 1) := by decide +kernel
theorem d8_findRests_81 : decode c8_findRests 81 = .ok (.iload_n 1, 1) := by decide +kernel
theorem d8_findRests_82 : decode c8_findRests 82 = .ok (.iload 4, 2) := by decide +kernel
theorem d8_findRests_84 : decode c8_findRests 84 = .ok (.iload 5, 2) := by decide +kernel
theorem d8_findRests_86 : decode c8_findRests 86 = .ok (.invokevirtual 122, 3) := by decide +kernel
theorem d8_findRests_89 : decode c8_findRests 89 = .ok (.iinc 4 1, 3) := by decide +kernel
theorem d8_findRests_92 : decode c8_findRests 92 = .ok (.goto (-67), 3) := by decide +kernel
theorem d8_findRests_95 : decode c8_findRests 95 = .ok (.return_, 1) := by decide +kernel
def t8_findRests (l : Launch) (Po : ri_O) : List ri_S := [i_al 1 0,
  i_get 2 8 1,
  i_get 3 4 2,
  i_il 4 1,
  i_aald 5 2,
  i_as 6 2,
  i_al 7 0,
  i_get 8 8 4,
  i_il 9 1,
  i_aald 10 3,
  i_as 11 3,
  i_al 12 3,
  i_con 13 (-1),
  i_call 14 2 (ri_Ev l y15_fill w15_fill r15_fill 0 0) 0 0 0 0,
  i_con 15 0,
  i_is 16 4,
  i_il 17 4,
  i_al 18 2,
  i_callV 19 1 5 (ri_Ev l y5_kept w5_kept r5_kept 0 0) 0 0 0 0,
  i_icmp 20 51 (fun x y => y ≤ x),
  i_al 21 0,
  i_get 22 8 3,
  i_al 23 2,
  i_get 24 5 1,
  i_il 25 4,
  i_ald 26 0,
  i_callV 27 2 7 (ri_Ev l y7_ofState w7_ofState r7_ofState 0 0) 0 0 0 0,
  i_is 28 5,
  i_al 29 0,
  i_get 30 8 0,
  i_il 31 1,
  i_callV 32 2 0 (ri_Ev l y0_isLast w0_isLast r0_isLast 0 0) 0 0 0 0,
  i_if 33 44 (fun x => x = 0),
  i_al 34 0,
  i_get 35 8 5,
  i_al 36 3,
  i_il 37 4,
  i_con 38 4,
  i_bin 39 (fun x y => x * y),
  i_il 40 5,
  i_con 41 0,
  i_call 42 5 (ri_Ev l y8_insert w8_insert r8_insert 0 0) 0 0 0 0,
  i_pop 43,
  i_goto 49,
  i_al 45 0,
  i_il 46 1,
  i_il 47 4,
  i_il 48 5,
  i_callV 49 4 8 (ri_Ev l y8_linkOnward w8_linkOnward r8_linkOnward 0 0) 0 0 0 0,
  i_inc 50 4 1,
  i_goto 16,
  i_vret Po 0 0]
set_option maxRecDepth 20000 in
set_option maxHeartbeats 4000000 in
theorem z8_findRests (l : Launch) (Po : ri_O) (p : Program) (e : Env) (s : State) (m : MethodId) (args : Array Value) (below : List Frame) (meth : Method) (c : Code) (D : va_G) (ka : Nat → ClassId) (sa : Nat → Nat) (base : Nat) (X : ri_X p s m args c c8_findRests 6 w8_findRests "ChoraleSearch$RowSearch" D ka sa base) (hret : meth.sig.returnType = none) (hlocks : meth.locks = false) (hname : meth.name = "findRests") : ri_clo (ri_W p l e r8_findRests s m args below meth c D ka sa base 6 (MQ below (ri_Qc D ka sa base Po) args s 0 0 (fun q => base ≤ q)) p8_findRests) (t8_findRests l Po) := by
  refine ri_clo_of ?_
  unfold t8_findRests
  exact ⟨s_aload_n X d8_findRests_0 rfl rfl,
    s_get X (ci := 8) (f := 1) rfl (fun w h => List.mem_cons_of_mem _ (uC_8 w h)) (by decide) (List.mem_cons_of_mem _ mgw_277) d8_findRests_1 rfl,
    s_getN X (ci := 4) (f := 2) rfl (fun w h => List.mem_cons_of_mem _ (uC_4 w h)) (by decide) (List.mem_of_getElem? (i := 34) rfl) d8_findRests_4 rfl,
    s_iload_n X d8_findRests_7 rfl rfl,
    s_aald X (kd := 2) rfl rfl d8_findRests_8 rfl,
    s_astore_n X d8_findRests_9 rfl (by decide) rfl,
    s_aload_n X d8_findRests_10 rfl rfl,
    s_get X (ci := 8) (f := 4) rfl (fun w h => List.mem_cons_of_mem _ (uC_8 w h)) (by decide) (List.mem_cons_of_mem _ mgw_280) d8_findRests_11 rfl,
    s_iload_n X d8_findRests_14 rfl rfl,
    s_aald X (kd := 3) rfl rfl d8_findRests_15 rfl,
    s_astore_n X d8_findRests_16 rfl (by decide) rfl,
    s_aload_n X d8_findRests_17 rfl rfl,
    s_iconst X d8_findRests_18 rfl rfl,
    s_callS ri_NW_ok X ⟨ri_cB X 2 mgw_106 (List.mem_cons_of_mem _ mgw_4) (List.mem_cons_of_mem _ mgw_516) (by decide +kernel) rfl rfl ⟨by decide, by decide⟩, X.2.2.2.2.1 _ (List.mem_cons_of_mem _ mgw_105)⟩ d8_findRests_19 rfl,
    s_iconst X d8_findRests_22 rfl rfl,
    s_istore X d8_findRests_23 (by decide) rfl,
    s_iload X d8_findRests_25 rfl,
    s_aload_n X d8_findRests_27 rfl rfl,
    s_callVN ri_NW_ok X (na := 0) (ci := 5) rfl ⟨ri_cN X 0 mgw_520 (List.mem_cons_of_mem _ mgw_8) (List.mem_of_getElem? (i := 63) rfl) (by decide +kernel) rfl rfl ⟨by decide, by decide⟩, X.2.2.2.2.1 _ (List.mem_cons_of_mem _ mgw_519), X.2.2.2.2.1 _ (List.mem_cons_of_mem _ mgp_28)⟩ d8_findRests_28 rfl,
    s_icmp_ge X d8_findRests_31 rfl rfl,
    s_aload_n X d8_findRests_34 rfl rfl,
    s_get X (ci := 8) (f := 3) rfl (fun w h => List.mem_cons_of_mem _ (uC_8 w h)) (by decide) (List.mem_cons_of_mem _ mgw_279) d8_findRests_35 rfl,
    s_aload_n X d8_findRests_38 rfl rfl,
    s_getN X (ci := 5) (f := 1) rfl (fun w h => List.mem_cons_of_mem _ (uC_5 w h)) (by decide) (List.mem_of_getElem? (i := 31) rfl) d8_findRests_39 rfl,
    s_iload X d8_findRests_42 rfl,
    s_iald X rfl d8_findRests_44 rfl,
    s_callVN ri_NW_ok X (na := 1) (ci := 7) rfl ⟨ri_cN X 1 mgw_525 (List.mem_cons_of_mem _ mgw_11) (List.mem_of_getElem? (i := 64) rfl) (by decide +kernel) rfl rfl ⟨by decide, by decide⟩, X.2.2.2.2.1 _ (List.mem_cons_of_mem _ mgw_524), X.2.2.2.2.1 _ (List.mem_cons_of_mem _ mgp_29)⟩ d8_findRests_45 rfl,
    s_istore X d8_findRests_48 (by decide) rfl,
    s_aload_n X d8_findRests_50 rfl rfl,
    s_get X (ci := 8) (f := 0) rfl (fun w h => List.mem_cons_of_mem _ (uC_8 w h)) (by decide) (List.mem_cons_of_mem _ mgw_276) d8_findRests_51 rfl,
    s_iload_n X d8_findRests_54 rfl rfl,
    s_callVN ri_NW_ok X (na := 1) (ci := 0) rfl ⟨ri_cN X 1 mgw_453 (List.mem_cons_of_mem _ mgw_2) (List.mem_of_getElem? (i := 71) rfl) (by decide +kernel) rfl rfl ⟨by decide, by decide⟩, X.2.2.2.2.1 _ (List.mem_cons_of_mem _ mgw_452), X.2.2.2.2.1 _ (List.mem_cons_of_mem _ mgp_15)⟩ d8_findRests_55 rfl,
    s_if_eq X d8_findRests_58 rfl rfl,
    s_aload_n X d8_findRests_61 rfl rfl,
    s_get X (ci := 8) (f := 5) rfl (fun w h => List.mem_cons_of_mem _ (uC_8 w h)) (by decide) (List.mem_cons_of_mem _ mgw_281) d8_findRests_62 rfl,
    s_aload_n X d8_findRests_65 rfl rfl,
    s_iload X d8_findRests_66 rfl,
    s_iconst X d8_findRests_68 rfl rfl,
    s_imul X d8_findRests_69 rfl,
    s_iload X d8_findRests_70 rfl,
    s_iconst X d8_findRests_72 rfl rfl,
    s_callS ri_NW_ok X ⟨ri_cB X 5 mgw_552 (List.mem_cons_of_mem _ mgw_10) (List.mem_cons_of_mem _ mgw_550) (by decide +kernel) rfl rfl ⟨by decide, by decide⟩, X.2.2.2.2.1 _ (List.mem_cons_of_mem _ mgw_551)⟩ d8_findRests_73 rfl,
    s_pop X d8_findRests_76 rfl,
    s_goto X d8_findRests_77 rfl,
    s_aload_n X d8_findRests_80 rfl rfl,
    s_iload_n X d8_findRests_81 rfl rfl,
    s_iload X d8_findRests_82 rfl,
    s_iload X d8_findRests_84 rfl,
    s_callV ri_NW_ok X (na := 3) (ci := 8) rfl ⟨ri_cB X 3 mgw_556 (List.mem_cons_of_mem _ mgw_10) (List.mem_cons_of_mem _ mgw_553) (by decide +kernel) rfl rfl ⟨by decide, by decide⟩, X.2.2.2.2.1 _ (List.mem_cons_of_mem _ mgw_555), X.2.2.2.2.1 _ (List.mem_cons_of_mem _ mgp_32)⟩ d8_findRests_86 rfl,
    s_iinc X d8_findRests_89 rfl (by decide) rfl,
    s_goto X d8_findRests_92 rfl,
    s_vret X hret hlocks d8_findRests_95, trivial⟩
theorem d8_insert_0 : decode c8_insert 0 = .ok (.iload_n 2, 1) := by decide +kernel
theorem d8_insert_1 : decode c8_insert 1 = .ok (.iconst 4, 1) := by decide +kernel
theorem d8_insert_2 : decode c8_insert 2 = .ok (.iadd, 1) := by decide +kernel
theorem d8_insert_3 : decode c8_insert 3 = .ok (.iconst 1, 1) := by decide +kernel
theorem d8_insert_4 : decode c8_insert 4 = .ok (.isub, 1) := by decide +kernel
theorem d8_insert_5 : decode c8_insert 5 = .ok (.istore 5, 2) := by decide +kernel
theorem d8_insert_7 : decode c8_insert 7 = .ok (.aload_n 1, 1) := by decide +kernel
theorem d8_insert_8 : decode c8_insert 8 = .ok (.iload 5, 2) := by decide +kernel
theorem d8_insert_10 : decode c8_insert 10 = .ok (.iaload, 1) := by decide +kernel
theorem d8_insert_11 : decode c8_insert 11 = .ok (.iconst (-1), 1) := by decide +kernel
theorem d8_insert_12 : decode c8_insert 12 = .ok (.if_icmp .eq 13, 3) := by decide +kernel
theorem d8_insert_15 : decode c8_insert 15 = .ok (.aload_n 0, 1) := by decide +kernel
theorem d8_insert_16 : decode c8_insert 16 = .ok (.iload 5, 2) := by decide +kernel
theorem d8_insert_18 : decode c8_insert 18 = .ok (.iaload, 1) := by decide +kernel
theorem d8_insert_19 : decode c8_insert 19 = .ok (.iload_n 3, 1) := by decide +kernel
theorem d8_insert_20 : decode c8_insert 20 = .ok (.if_icmp .gt 5, 3) := by decide +kernel
theorem d8_insert_23 : decode c8_insert 23 = .ok (.iconst 0, 1) := by decide +kernel
theorem d8_insert_24 : decode c8_insert 24 = .ok (.ireturn, 1) := by decide +kernel
theorem d8_insert_25 : decode c8_insert 25 = .ok (.iload 5, 2) := by decide +kernel
theorem d8_insert_27 : decode c8_insert 27 = .ok (.iload_n 2, 1) := by decide +kernel
theorem d8_insert_28 : decode c8_insert 28 = .ok (.if_icmp .le 49, 3) := by decide +kernel
theorem d8_insert_31 : decode c8_insert 31 = .ok (.aload_n 1, 1) := by decide +kernel
theorem d8_insert_32 : decode c8_insert 32 = .ok (.iload 5, 2) := by decide +kernel
theorem d8_insert_34 : decode c8_insert 34 = .ok (.iconst 1, 1) := by decide +kernel
theorem d8_insert_35 : decode c8_insert 35 = .ok (.isub, 1) := by decide +kernel
theorem d8_insert_36 : decode c8_insert 36 = .ok (.iaload, 1) := by decide +kernel
theorem d8_insert_37 : decode c8_insert 37 = .ok (.iconst (-1), 1) := by decide +kernel
theorem d8_insert_38 : decode c8_insert 38 = .ok (.if_icmp .eq 13, 3) := by decide +kernel
theorem d8_insert_41 : decode c8_insert 41 = .ok (.aload_n 0, 1) := by decide +kernel
theorem d8_insert_42 : decode c8_insert 42 = .ok (.iload 5, 2) := by decide +kernel
theorem d8_insert_44 : decode c8_insert 44 = .ok (.iconst 1, 1) := by decide +kernel
theorem d8_insert_45 : decode c8_insert 45 = .ok (.isub, 1) := by decide +kernel
theorem d8_insert_46 : decode c8_insert 46 = .ok (.iaload, 1) := by decide +kernel
theorem d8_insert_47 : decode c8_insert 47 = .ok (.iload_n 3, 1) := by decide +kernel
theorem d8_insert_48 : decode c8_insert 48 = .ok (.if_icmp .le 29, 3) := by decide +kernel
theorem d8_insert_51 : decode c8_insert 51 = .ok (.aload_n 0, 1) := by decide +kernel
theorem d8_insert_52 : decode c8_insert 52 = .ok (.iload 5, 2) := by decide +kernel
theorem d8_insert_54 : decode c8_insert 54 = .ok (.aload_n 0, 1) := by decide +kernel
theorem d8_insert_55 : decode c8_insert 55 = .ok (.iload 5, 2) := by decide +kernel
theorem d8_insert_57 : decode c8_insert 57 = .ok (.iconst 1, 1) := by decide +kernel
theorem d8_insert_58 : decode c8_insert 58 = .ok (.isub, 1) := by decide +kernel
theorem d8_insert_59 : decode c8_insert 59 = .ok (.iaload, 1) := by decide +kernel
theorem d8_insert_60 : decode c8_insert 60 = .ok (.iastore, 1) := by decide +kernel
theorem d8_insert_61 : decode c8_insert 61 = .ok (.aload_n 1, 1) := by decide +kernel
theorem d8_insert_62 : decode c8_insert 62 = .ok (.iload 5, 2) := by decide +kernel
theorem d8_insert_64 : decode c8_insert 64 = .ok (.aload_n 1, 1) := by decide +kernel
theorem d8_insert_65 : decode c8_insert 65 = .ok (.iload 5, 2) := by decide +kernel
theorem d8_insert_67 : decode c8_insert 67 = .ok (.iconst 1, 1) := by decide +kernel
theorem d8_insert_68 : decode c8_insert 68 = .ok (.isub, 1) := by decide +kernel
theorem d8_insert_69 : decode c8_insert 69 = .ok (.iaload, 1) := by decide +kernel
theorem d8_insert_70 : decode c8_insert 70 = .ok (.iastore, 1) := by decide +kernel
theorem d8_insert_71 : decode c8_insert 71 = .ok (.iinc 5 (-1), 3) := by decide +kernel
theorem d8_insert_74 : decode c8_insert 74 = .ok (.goto (-49), 3) := by decide +kernel
theorem d8_insert_77 : decode c8_insert 77 = .ok (.aload_n 0, 1) := by decide +kernel
theorem d8_insert_78 : decode c8_insert 78 = .ok (.iload 5, 2) := by decide +kernel
theorem d8_insert_80 : decode c8_insert 80 = .ok (.iload_n 3, 1) := by decide +kernel
theorem d8_insert_81 : decode c8_insert 81 = .ok (.iastore, 1) := by decide +kernel
theorem d8_insert_82 : decode c8_insert 82 = .ok (.aload_n 1, 1) := by decide +kernel
theorem d8_insert_83 : decode c8_insert 83 = .ok (.iload 5, 2) := by decide +kernel
theorem d8_insert_85 : decode c8_insert 85 = .ok (.iload 4, 2) := by decide +kernel
theorem d8_insert_87 : decode c8_insert 87 = .ok (.iastore, 1) := by decide +kernel
theorem d8_insert_88 : decode c8_insert 88 = .ok (.iconst 1, 1) := by decide +kernel
theorem d8_insert_89 : decode c8_insert 89 = .ok (.ireturn, 1) := by decide +kernel
def t8_insert (l : Launch) (Po : ri_O) : List ri_S := [i_il 1 2,
  i_con 2 4,
  i_bin 3 (fun x y => x + y),
  i_con 4 1,
  i_bin 5 (fun x y => x - y),
  i_is 6 5,
  i_al 7 1,
  i_il 8 5,
  i_ald 9 0,
  i_con 10 (-1),
  i_icmp 11 18 (fun x y => x = y),
  i_al 12 0,
  i_il 13 5,
  i_ald 14 0,
  i_il 15 3,
  i_icmp 16 18 (fun x y => y < x),
  i_con 17 0,
  i_zret Po 0 0,
  i_il 19 5,
  i_il 20 2,
  i_icmp 21 53 (fun x y => x ≤ y),
  i_al 22 1,
  i_il 23 5,
  i_con 24 1,
  i_bin 25 (fun x y => x - y),
  i_ald 26 0,
  i_con 27 (-1),
  i_icmp 28 35 (fun x y => x = y),
  i_al 29 0,
  i_il 30 5,
  i_con 31 1,
  i_bin 32 (fun x y => x - y),
  i_ald 33 0,
  i_il 34 3,
  i_icmp 35 53 (fun x y => x ≤ y),
  i_al 36 0,
  i_il 37 5,
  i_al 38 0,
  i_il 39 5,
  i_con 40 1,
  i_bin 41 (fun x y => x - y),
  i_ald 42 0,
  i_ast 43 0 (fun x => x),
  i_al 44 1,
  i_il 45 5,
  i_al 46 1,
  i_il 47 5,
  i_con 48 1,
  i_bin 49 (fun x y => x - y),
  i_ald 50 0,
  i_ast 51 0 (fun x => x),
  i_inc 52 5 (-1),
  i_goto 18,
  i_al 54 0,
  i_il 55 5,
  i_il 56 3,
  i_ast 57 0 (fun x => x),
  i_al 58 1,
  i_il 59 5,
  i_il 60 4,
  i_ast 61 0 (fun x => x),
  i_con 62 1,
  i_zret Po 0 0]
set_option maxRecDepth 20000 in
set_option maxHeartbeats 4000000 in
theorem z8_insert (l : Launch) (Po : ri_O) (p : Program) (e : Env) (s : State) (m : MethodId) (args : Array Value) (below : List Frame) (meth : Method) (c : Code) (D : va_G) (ka : Nat → ClassId) (sa : Nat → Nat) (base : Nat) (X : ri_X p s m args c c8_insert 6 w8_insert "ChoraleSearch$RowSearch" D ka sa base) (hret : meth.sig.returnType = (some .boolean)) (hlocks : meth.locks = false) (hname : meth.name = "insert") : ri_clo (ri_W p l e r8_insert s m args below meth c D ka sa base 6 (MQ below (ri_Qc D ka sa base Po) args s 0 0 (fun q => base ≤ q)) p8_insert) (t8_insert l Po) := by
  refine ri_clo_of ?_
  unfold t8_insert
  exact ⟨s_iload_n X d8_insert_0 rfl rfl,
    s_iconst X d8_insert_1 rfl rfl,
    s_iadd X d8_insert_2 rfl,
    s_iconst X d8_insert_3 rfl rfl,
    s_isub X d8_insert_4 rfl,
    s_istore X d8_insert_5 (by decide) rfl,
    s_aload_n X d8_insert_7 rfl rfl,
    s_iload X d8_insert_8 rfl,
    s_iald X rfl d8_insert_10 rfl,
    s_iconst X d8_insert_11 rfl rfl,
    s_icmp_eq X d8_insert_12 rfl rfl,
    s_aload_n X d8_insert_15 rfl rfl,
    s_iload X d8_insert_16 rfl,
    s_iald X rfl d8_insert_18 rfl,
    s_iload_n X d8_insert_19 rfl rfl,
    s_icmp_gt X d8_insert_20 rfl rfl,
    s_iconst X d8_insert_23 rfl rfl,
    s_zret X hret hlocks d8_insert_24,
    s_iload X d8_insert_25 rfl,
    s_iload_n X d8_insert_27 rfl rfl,
    s_icmp_le X d8_insert_28 rfl rfl,
    s_aload_n X d8_insert_31 rfl rfl,
    s_iload X d8_insert_32 rfl,
    s_iconst X d8_insert_34 rfl rfl,
    s_isub X d8_insert_35 rfl,
    s_iald X rfl d8_insert_36 rfl,
    s_iconst X d8_insert_37 rfl rfl,
    s_icmp_eq X d8_insert_38 rfl rfl,
    s_aload_n X d8_insert_41 rfl rfl,
    s_iload X d8_insert_42 rfl,
    s_iconst X d8_insert_44 rfl rfl,
    s_isub X d8_insert_45 rfl,
    s_iald X rfl d8_insert_46 rfl,
    s_iload_n X d8_insert_47 rfl rfl,
    s_icmp_le X d8_insert_48 rfl rfl,
    s_aload_n X d8_insert_51 rfl rfl,
    s_iload X d8_insert_52 rfl,
    s_aload_n X d8_insert_54 rfl rfl,
    s_iload X d8_insert_55 rfl,
    s_iconst X d8_insert_57 rfl rfl,
    s_isub X d8_insert_58 rfl,
    s_iald X rfl d8_insert_59 rfl,
    s_iast X rfl d8_insert_60 rfl,
    s_aload_n X d8_insert_61 rfl rfl,
    s_iload X d8_insert_62 rfl,
    s_aload_n X d8_insert_64 rfl rfl,
    s_iload X d8_insert_65 rfl,
    s_iconst X d8_insert_67 rfl rfl,
    s_isub X d8_insert_68 rfl,
    s_iald X rfl d8_insert_69 rfl,
    s_iast X rfl d8_insert_70 rfl,
    s_iinc X d8_insert_71 rfl (by decide) rfl,
    s_goto X d8_insert_74 rfl,
    s_aload_n X d8_insert_77 rfl rfl,
    s_iload X d8_insert_78 rfl,
    s_iload_n X d8_insert_80 rfl rfl,
    s_iast X rfl d8_insert_81 rfl,
    s_aload_n X d8_insert_82 rfl rfl,
    s_iload X d8_insert_83 rfl,
    s_iload X d8_insert_85 rfl,
    s_iast X rfl d8_insert_87 rfl,
    s_iconst X d8_insert_88 rfl rfl,
    s_zret X hret hlocks d8_insert_89, trivial⟩
theorem d8_linkOnward_0 : decode c8_linkOnward 0 = .ok (.aload_n 0, 1) := by decide +kernel
theorem d8_linkOnward_1 : decode c8_linkOnward 1 = .ok (.getfield 42, 3) := by decide +kernel
theorem d8_linkOnward_4 : decode c8_linkOnward 4 = .ok (.getfield 87, 3) := by decide +kernel
theorem d8_linkOnward_7 : decode c8_linkOnward 7 = .ok (.iload_n 1, 1) := by decide +kernel
theorem d8_linkOnward_8 : decode c8_linkOnward 8 = .ok (.aaload, 1) := by decide +kernel
theorem d8_linkOnward_9 : decode c8_linkOnward 9 = .ok (.getfield 105, 3) := by decide +kernel
theorem d8_linkOnward_12 : decode c8_linkOnward 12 = .ok (.iload_n 2, 1) := by decide +kernel
theorem d8_linkOnward_13 : decode c8_linkOnward 13 = .ok (.iaload, 1) := by decide +kernel
theorem d8_linkOnward_14 : decode c8_linkOnward 14 = .ok (.istore 4, 2) := by decide +kernel
theorem d8_linkOnward_16 : decode c8_linkOnward 16 = .ok (.aload_n 0, 1) := by decide +kernel
theorem d8_linkOnward_17 : decode c8_linkOnward 17 = .ok (.getfield 42, 3) := by decide +kernel
theorem d8_linkOnward_20 : decode c8_linkOnward 20 = .ok (.getfield 87, 3) := by decide +kernel
theorem d8_linkOnward_23 : decode c8_linkOnward 23 = .ok (.iload_n 1, 1) := by decide +kernel
theorem d8_linkOnward_24 : decode c8_linkOnward 24 = .ok (.iconst 1, 1) := by decide +kernel
theorem d8_linkOnward_25 : decode c8_linkOnward 25 = .ok (.iadd, 1) := by decide +kernel
theorem d8_linkOnward_26 : decode c8_linkOnward 26 = .ok (.aaload, 1) := by decide +kernel
theorem d8_linkOnward_27 : decode c8_linkOnward 27 = .ok (.astore 5, 2) := by decide +kernel
theorem d8_linkOnward_29 : decode c8_linkOnward 29 = .ok (.iconst 0, 1) := by decide +kernel
theorem d8_linkOnward_30 : decode c8_linkOnward 30 = .ok (.istore 6, 2) := by decide +kernel
theorem d8_linkOnward_32 : decode c8_linkOnward 32 = .ok (.iload 6, 2) := by decide +kernel
theorem d8_linkOnward_34 : decode c8_linkOnward 34 = .ok (.aload_n 0, 1) := by decide +kernel
theorem d8_linkOnward_35 : decode c8_linkOnward 35 = .ok (.getfield 126, 3) := by decide +kernel
theorem d8_linkOnward_38 : decode c8_linkOnward 38 = .ok (.if_icmp .ge 69, 3) := by decide +kernel
theorem d8_linkOnward_41 : decode c8_linkOnward 41 = .ok (.aload_n 0, 1) := by decide +kernel
theorem d8_linkOnward_42 : decode c8_linkOnward 42 = .ok (.getfield 23, 3) := by decide +kernel
theorem d8_linkOnward_45 : decode c8_linkOnward 45 = .ok (.iload 6, 2) := by decide +kernel
theorem d8_linkOnward_47 : decode c8_linkOnward 47 = .ok (.iaload, 1) := by decide +kernel
theorem d8_linkOnward_48 : decode c8_linkOnward 48 = .ok (.istore 7, 2) := by decide +kernel
theorem d8_linkOnward_50 : decode c8_linkOnward 50 = .ok (.aload_n 0, 1) := by decide +kernel
theorem d8_linkOnward_51 : decode c8_linkOnward 51 = .ok (.getfield 46, 3) := by decide +kernel
theorem d8_linkOnward_54 : decode c8_linkOnward 54 = .ok (.iload 4, 2) := by decide +kernel
theorem d8_linkOnward_56 : decode c8_linkOnward 56 = .ok (.aload 5, 2) := by decide +kernel
theorem d8_linkOnward_58 : decode c8_linkOnward 58 = .ok (.getfield 105, 3) := by decide +kernel
theorem d8_linkOnward_61 : decode c8_linkOnward 61 = .ok (.iload 7, 2) := by decide +kernel
theorem d8_linkOnward_63 : decode c8_linkOnward 63 = .ok (.iaload, 1) := by decide +kernel
theorem d8_linkOnward_64 : decode c8_linkOnward 64 = .ok (.invokevirtual 129, 3) := by decide +kernel
theorem d8_linkOnward_67 : decode c8_linkOnward 67 = .ok (.ifCond .eq 34, 3) := by decide +kernel
theorem d8_linkOnward_70 : decode c8_linkOnward 70 = .ok (.iload_n 3, 1) := by decide +kernel
theorem d8_linkOnward_71 : decode c8_linkOnward 71 = .ok (.aload_n 0, 1) := by decide +kernel
theorem d8_linkOnward_72 : decode c8_linkOnward 72 = .ok (.getfield 50, 3) := by decide +kernel
theorem d8_linkOnward_75 : decode c8_linkOnward 75 = .ok (.iload 4, 2) := by decide +kernel
theorem d8_linkOnward_77 : decode c8_linkOnward 77 = .ok (.aload 5, 2) := by decide +kernel
theorem d8_linkOnward_79 : decode c8_linkOnward 79 = .ok (.getfield 105, 3) := by decide +kernel
theorem d8_linkOnward_82 : decode c8_linkOnward 82 = .ok (.iload 7, 2) := by decide +kernel
theorem d8_linkOnward_84 : decode c8_linkOnward 84 = .ok (.iaload, 1) := by decide +kernel
theorem d8_linkOnward_85 : decode c8_linkOnward 85 = .ok (.invokevirtual 135, 3) := by decide +kernel
theorem d8_linkOnward_88 : decode c8_linkOnward 88 = .ok (.iadd, 1) := by decide +kernel
theorem d8_linkOnward_89 : decode c8_linkOnward 89 = .ok (.istore 8, 2) := by decide +kernel
theorem d8_linkOnward_91 : decode c8_linkOnward 91 = .ok (.aload_n 0, 1) := by decide +kernel
theorem d8_linkOnward_92 : decode c8_linkOnward 92 = .ok (.iload_n 1, 1) := by decide +kernel
theorem d8_linkOnward_93 : decode c8_linkOnward 93 = .ok (.iload_n 2, 1) := by decide +kernel
theorem d8_linkOnward_94 : decode c8_linkOnward 94 = .ok (.iload 7, 2) := by decide +kernel
theorem d8_linkOnward_96 : decode c8_linkOnward 96 = .ok (.iload 8, 2) := by decide +kernel
theorem d8_linkOnward_98 : decode c8_linkOnward 98 = .ok (.invokevirtual 139, 3) := by decide +kernel
theorem d8_linkOnward_101 : decode c8_linkOnward 101 = .ok (.iinc 6 1, 3) := by decide +kernel
theorem d8_linkOnward_104 : decode c8_linkOnward 104 = .ok (.goto (-72), 3) := by decide +kernel
theorem d8_linkOnward_107 : decode c8_linkOnward 107 = .ok (.return_, 1) := by decide +kernel
def t8_linkOnward (l : Launch) (Po : ri_O) : List ri_S := [i_al 1 0,
  i_get 2 8 1,
  i_get 3 4 2,
  i_il 4 1,
  i_aald 5 2,
  i_get 6 5 1,
  i_il 7 2,
  i_ald 8 0,
  i_is 9 4,
  i_al 10 0,
  i_get 11 8 1,
  i_get 12 4 2,
  i_il 13 1,
  i_con 14 1,
  i_bin 15 (fun x y => x + y),
  i_aald 16 2,
  i_as 17 5,
  i_con 18 0,
  i_is 19 6,
  i_il 20 6,
  i_al 21 0,
  i_get 22 8 8,
  i_icmp 23 56 (fun x y => y ≤ x),
  i_al 24 0,
  i_get 25 8 7,
  i_il 26 6,
  i_ald 27 0,
  i_is 28 7,
  i_al 29 0,
  i_get 30 8 2,
  i_il 31 4,
  i_al 32 5,
  i_get 33 5 1,
  i_il 34 7,
  i_ald 35 0,
  i_callV 36 3 3 (ri_Ev l y3_allow w3_allow r3_allow 0 0) 0 0 0 0,
  i_if 37 54 (fun x => x = 0),
  i_il 38 3,
  i_al 39 0,
  i_get 40 8 3,
  i_il 41 4,
  i_al 42 5,
  i_get 43 5 1,
  i_il 44 7,
  i_ald 45 0,
  i_callV 46 3 7 (ri_Ev l y7_ofStep w7_ofStep r7_ofStep 0 0) 0 0 0 0,
  i_bin 47 (fun x y => x + y),
  i_is 48 8,
  i_al 49 0,
  i_il 50 1,
  i_il 51 2,
  i_il 52 7,
  i_il 53 8,
  i_callV 54 5 8 (ri_Ev l y8_insertRests w8_insertRests r8_insertRests 0 0) 0 0 0 0,
  i_inc 55 6 1,
  i_goto 19,
  i_vret Po 0 0]
set_option maxRecDepth 20000 in
set_option maxHeartbeats 4000000 in
theorem z8_linkOnward (l : Launch) (Po : ri_O) (p : Program) (e : Env) (s : State) (m : MethodId) (args : Array Value) (below : List Frame) (meth : Method) (c : Code) (D : va_G) (ka : Nat → ClassId) (sa : Nat → Nat) (base : Nat) (X : ri_X p s m args c c8_linkOnward 9 w8_linkOnward "ChoraleSearch$RowSearch" D ka sa base) (hret : meth.sig.returnType = none) (hlocks : meth.locks = false) (hname : meth.name = "linkOnward") : ri_clo (ri_W p l e r8_linkOnward s m args below meth c D ka sa base 9 (MQ below (ri_Qc D ka sa base Po) args s 0 0 (fun q => base ≤ q)) p8_linkOnward) (t8_linkOnward l Po) := by
  refine ri_clo_of ?_
  unfold t8_linkOnward
  exact ⟨s_aload_n X d8_linkOnward_0 rfl rfl,
    s_get X (ci := 8) (f := 1) rfl (fun w h => List.mem_cons_of_mem _ (uC_8 w h)) (by decide) (List.mem_cons_of_mem _ mgw_277) d8_linkOnward_1 rfl,
    s_getN X (ci := 4) (f := 2) rfl (fun w h => List.mem_cons_of_mem _ (uC_4 w h)) (by decide) (List.mem_of_getElem? (i := 34) rfl) d8_linkOnward_4 rfl,
    s_iload_n X d8_linkOnward_7 rfl rfl,
    s_aald X (kd := 2) rfl rfl d8_linkOnward_8 rfl,
    s_getN X (ci := 5) (f := 1) rfl (fun w h => List.mem_cons_of_mem _ (uC_5 w h)) (by decide) (List.mem_of_getElem? (i := 31) rfl) d8_linkOnward_9 rfl,
    s_iload_n X d8_linkOnward_12 rfl rfl,
    s_iald X rfl d8_linkOnward_13 rfl,
    s_istore X d8_linkOnward_14 (by decide) rfl,
    s_aload_n X d8_linkOnward_16 rfl rfl,
    s_get X (ci := 8) (f := 1) rfl (fun w h => List.mem_cons_of_mem _ (uC_8 w h)) (by decide) (List.mem_cons_of_mem _ mgw_277) d8_linkOnward_17 rfl,
    s_getN X (ci := 4) (f := 2) rfl (fun w h => List.mem_cons_of_mem _ (uC_4 w h)) (by decide) (List.mem_of_getElem? (i := 34) rfl) d8_linkOnward_20 rfl,
    s_iload_n X d8_linkOnward_23 rfl rfl,
    s_iconst X d8_linkOnward_24 rfl rfl,
    s_iadd X d8_linkOnward_25 rfl,
    s_aald X (kd := 2) rfl rfl d8_linkOnward_26 rfl,
    s_astore X d8_linkOnward_27 (by decide) rfl,
    s_iconst X d8_linkOnward_29 rfl rfl,
    s_istore X d8_linkOnward_30 (by decide) rfl,
    s_iload X d8_linkOnward_32 rfl,
    s_aload_n X d8_linkOnward_34 rfl rfl,
    s_get X (ci := 8) (f := 8) rfl (fun w h => List.mem_cons_of_mem _ (uC_8 w h)) (by decide) (List.mem_cons_of_mem _ mgw_284) d8_linkOnward_35 rfl,
    s_icmp_ge X d8_linkOnward_38 rfl rfl,
    s_aload_n X d8_linkOnward_41 rfl rfl,
    s_get X (ci := 8) (f := 7) rfl (fun w h => List.mem_cons_of_mem _ (uC_8 w h)) (by decide) (List.mem_cons_of_mem _ mgw_283) d8_linkOnward_42 rfl,
    s_iload X d8_linkOnward_45 rfl,
    s_iald X rfl d8_linkOnward_47 rfl,
    s_istore X d8_linkOnward_48 (by decide) rfl,
    s_aload_n X d8_linkOnward_50 rfl rfl,
    s_get X (ci := 8) (f := 2) rfl (fun w h => List.mem_cons_of_mem _ (uC_8 w h)) (by decide) (List.mem_cons_of_mem _ mgw_278) d8_linkOnward_51 rfl,
    s_iload X d8_linkOnward_54 rfl,
    s_aload X d8_linkOnward_56 rfl,
    s_getN X (ci := 5) (f := 1) rfl (fun w h => List.mem_cons_of_mem _ (uC_5 w h)) (by decide) (List.mem_of_getElem? (i := 31) rfl) d8_linkOnward_58 rfl,
    s_iload X d8_linkOnward_61 rfl,
    s_iald X rfl d8_linkOnward_63 rfl,
    s_callVN ri_NW_ok X (na := 2) (ci := 3) rfl ⟨ri_cN X 2 mgw_560 (List.mem_cons_of_mem _ mgw_6) (List.mem_of_getElem? (i := 72) rfl) (by decide +kernel) rfl rfl ⟨by decide, by decide⟩, X.2.2.2.2.1 _ (List.mem_cons_of_mem _ mgw_559), X.2.2.2.2.1 _ (List.mem_cons_of_mem _ mgp_33)⟩ d8_linkOnward_64 rfl,
    s_if_eq X d8_linkOnward_67 rfl rfl,
    s_iload_n X d8_linkOnward_70 rfl rfl,
    s_aload_n X d8_linkOnward_71 rfl rfl,
    s_get X (ci := 8) (f := 3) rfl (fun w h => List.mem_cons_of_mem _ (uC_8 w h)) (by decide) (List.mem_cons_of_mem _ mgw_279) d8_linkOnward_72 rfl,
    s_iload X d8_linkOnward_75 rfl,
    s_aload X d8_linkOnward_77 rfl,
    s_getN X (ci := 5) (f := 1) rfl (fun w h => List.mem_cons_of_mem _ (uC_5 w h)) (by decide) (List.mem_of_getElem? (i := 31) rfl) d8_linkOnward_79 rfl,
    s_iload X d8_linkOnward_82 rfl,
    s_iald X rfl d8_linkOnward_84 rfl,
    s_callVN ri_NW_ok X (na := 2) (ci := 7) rfl ⟨ri_cN X 2 mgw_608 (List.mem_cons_of_mem _ mgw_11) (List.mem_of_getElem? (i := 77) rfl) (by decide +kernel) rfl rfl ⟨by decide, by decide⟩, X.2.2.2.2.1 _ (List.mem_cons_of_mem _ mgw_607), X.2.2.2.2.1 _ (List.mem_cons_of_mem _ mgp_43)⟩ d8_linkOnward_85 rfl,
    s_iadd X d8_linkOnward_88 rfl,
    s_istore X d8_linkOnward_89 (by decide) rfl,
    s_aload_n X d8_linkOnward_91 rfl rfl,
    s_iload_n X d8_linkOnward_92 rfl rfl,
    s_iload_n X d8_linkOnward_93 rfl rfl,
    s_iload X d8_linkOnward_94 rfl,
    s_iload X d8_linkOnward_96 rfl,
    s_callV ri_NW_ok X (na := 4) (ci := 8) rfl ⟨ri_cB X 4 mgw_621 (List.mem_cons_of_mem _ mgw_10) (List.mem_cons_of_mem _ mgw_618) (by decide +kernel) rfl rfl ⟨by decide, by decide⟩, X.2.2.2.2.1 _ (List.mem_cons_of_mem _ mgw_620), X.2.2.2.2.1 _ (List.mem_cons_of_mem _ mgp_44)⟩ d8_linkOnward_98 rfl,
    s_iinc X d8_linkOnward_101 rfl (by decide) rfl,
    s_goto X d8_linkOnward_104 rfl,
    s_vret X hret hlocks d8_linkOnward_107, trivial⟩
theorem d8_insertRests_0 : decode c8_insertRests 0 = .ok (.iconst 0, 1) := by decide +kernel
theorem d8_insertRests_1 : decode c8_insertRests 1 = .ok (.istore 5, 2) := by decide +kernel
theorem d8_insertRests_3 : decode c8_insertRests 3 = .ok (.iload 5, 2) := by decide +kernel
theorem d8_insertRests_5 : decode c8_insertRests 5 = .ok (.iconst 4, 1) := by decide +kernel
theorem d8_insertRests_6 : decode c8_insertRests 6 = .ok (.if_icmp .ge 64, 3) := by decide +kernel
theorem d8_insertRests_9 : decode c8_insertRests 9 = .ok (.iload_n 3, 1) := by decide +kernel
theorem d8_insertRests_10 : decode c8_insertRests 10 = .ok (.iconst 4, 1) := by decide +kernel
theorem d8_insertRests_11 : decode c8_insertRests 11 = .ok (.imul, 1) := by decide +kernel
theorem d8_insertRests_12 : decode c8_insertRests 12 = .ok (.iload 5, 2) := by decide +kernel
theorem d8_insertRests_14 : decode c8_insertRests 14 = .ok (.iadd, 1) := by decide +kernel
theorem d8_insertRests_15 : decode c8_insertRests 15 = .ok (.istore 6, 2) := by decide +kernel
theorem d8_insertRests_17 : decode c8_insertRests 17 = .ok (.aload_n 0, 1) := by decide +kernel
theorem d8_insertRests_18 : decode c8_insertRests 18 = .ok (.getfield 11, 3) := by decide +kernel
theorem d8_insertRests_21 : decode c8_insertRests 21 = .ok (.iload_n 1, 1) := by decide +kernel
theorem d8_insertRests_22 : decode c8_insertRests 22 = .ok (.iconst 1, 1) := by decide +kernel
theorem d8_insertRests_23 : decode c8_insertRests 23 = .ok (.iadd, 1) := by decide +kernel
theorem d8_insertRests_24 : decode c8_insertRests 24 = .ok (.aaload, 1) := by decide +kernel
theorem d8_insertRests_25 : decode c8_insertRests 25 = .ok (.iload 6, 2) := by decide +kernel
theorem d8_insertRests_27 : decode c8_insertRests 27 = .ok (.iaload, 1) := by decide +kernel
theorem d8_insertRests_28 : decode c8_insertRests 28 = .ok (.iconst (-1), 1) := by decide +kernel
theorem d8_insertRests_29 : decode c8_insertRests 29 = .ok (.if_icmp .eq 34, 3) := by decide +kernel
theorem d8_insertRests_32 : decode c8_insertRests 32 = .ok (.aload_n 0, 1) := by decide +kernel
theorem d8_insertRests_33 : decode c8_insertRests 33 = .ok (.getfield 16, 3) := by decide +kernel
theorem d8_insertRests_36 : decode c8_insertRests 36 = .ok (.aload_n 0, 1) := by decide +kernel
theorem d8_insertRests_37 : decode c8_insertRests 37 = .ok (.getfield 11, 3) := by decide +kernel
theorem d8_insertRests_40 : decode c8_insertRests 40 = .ok (.iload_n 1, 1) := by decide +kernel
theorem d8_insertRests_41 : decode c8_insertRests 41 = .ok (.aaload, 1) := by decide +kernel
theorem d8_insertRests_42 : decode c8_insertRests 42 = .ok (.iload_n 2, 1) := by decide +kernel
theorem d8_insertRests_43 : decode c8_insertRests 43 = .ok (.iconst 4, 1) := by decide +kernel
theorem d8_insertRests_44 : decode c8_insertRests 44 = .ok (.imul, 1) := by decide +kernel
theorem d8_insertRests_45 : decode c8_insertRests 45 = .ok (.iload 4, 2) := by decide +kernel
theorem d8_insertRests_47 : decode c8_insertRests 47 = .ok (.aload_n 0, 1) := by decide +kernel
theorem d8_insertRests_48 : decode c8_insertRests 48 = .ok (.getfield 20, 3) := by decide +kernel
theorem d8_insertRests_51 : decode c8_insertRests 51 = .ok (.iload 6, 2) := by decide +kernel
theorem d8_insertRests_53 : decode c8_insertRests 53 = .ok (.iaload, 1) := by decide +kernel
theorem d8_insertRests_54 : decode c8_insertRests 54 = .ok (.iadd, 1) := by decide +kernel
theorem d8_insertRests_55 : decode c8_insertRests 55 = .ok (.iload 6, 2) := by decide +kernel
theorem d8_insertRests_57 : decode c8_insertRests 57 = .ok (.invokestatic 118, 3) := by decide +kernel
theorem d8_insertRests_60 : decode c8_insertRests 60 = .ok (.ifCond .ne 4, 3) := by decide +kernel
theorem d8_insertRests_63 : decode c8_insertRests 63 = .ok (.return_, 1) := by decide +kernel
theorem d8_insertRests_64 : decode c8_insertRests 64 = .ok (.iinc 5 1, 3) := by decide +kernel
theorem d8_insertRests_67 : decode c8_insertRests 67 = .ok (.goto (-64), 3) := by decide +kernel
theorem d8_insertRests_70 : decode c8_insertRests 70 = .ok (.return_, 1) := by decide +kernel
def t8_insertRests (l : Launch) (Po : ri_O) : List ri_S := [i_con 1 0,
  i_is 2 5,
  i_il 3 5,
  i_con 4 4,
  i_icmp 5 42 (fun x y => y ≤ x),
  i_il 6 3,
  i_con 7 4,
  i_bin 8 (fun x y => x * y),
  i_il 9 5,
  i_bin 10 (fun x y => x + y),
  i_is 11 6,
  i_al 12 0,
  i_get 13 8 4,
  i_il 14 1,
  i_con 15 1,
  i_bin 16 (fun x y => x + y),
  i_aald 17 3,
  i_il 18 6,
  i_ald 19 0,
  i_con 20 (-1),
  i_icmp 21 39 (fun x y => x = y),
  i_al 22 0,
  i_get 23 8 5,
  i_al 24 0,
  i_get 25 8 4,
  i_il 26 1,
  i_aald 27 3,
  i_il 28 2,
  i_con 29 4,
  i_bin 30 (fun x y => x * y),
  i_il 31 4,
  i_al 32 0,
  i_get 33 8 6,
  i_il 34 6,
  i_ald 35 0,
  i_bin 36 (fun x y => x + y),
  i_il 37 6,
  i_call 38 5 (ri_Ev l y8_insert w8_insert r8_insert 0 0) 0 0 0 0,
  i_if 39 40 (fun x => ¬ x = 0),
  i_vret Po 0 0,
  i_inc 41 5 1,
  i_goto 2,
  i_vret Po 0 0]
set_option maxRecDepth 20000 in
set_option maxHeartbeats 4000000 in
theorem z8_insertRests (l : Launch) (Po : ri_O) (p : Program) (e : Env) (s : State) (m : MethodId) (args : Array Value) (below : List Frame) (meth : Method) (c : Code) (D : va_G) (ka : Nat → ClassId) (sa : Nat → Nat) (base : Nat) (X : ri_X p s m args c c8_insertRests 7 w8_insertRests "ChoraleSearch$RowSearch" D ka sa base) (hret : meth.sig.returnType = none) (hlocks : meth.locks = false) (hname : meth.name = "insertRests") : ri_clo (ri_W p l e r8_insertRests s m args below meth c D ka sa base 7 (MQ below (ri_Qc D ka sa base Po) args s 0 0 (fun q => base ≤ q)) p8_insertRests) (t8_insertRests l Po) := by
  refine ri_clo_of ?_
  unfold t8_insertRests
  exact ⟨s_iconst X d8_insertRests_0 rfl rfl,
    s_istore X d8_insertRests_1 (by decide) rfl,
    s_iload X d8_insertRests_3 rfl,
    s_iconst X d8_insertRests_5 rfl rfl,
    s_icmp_ge X d8_insertRests_6 rfl rfl,
    s_iload_n X d8_insertRests_9 rfl rfl,
    s_iconst X d8_insertRests_10 rfl rfl,
    s_imul X d8_insertRests_11 rfl,
    s_iload X d8_insertRests_12 rfl,
    s_iadd X d8_insertRests_14 rfl,
    s_istore X d8_insertRests_15 (by decide) rfl,
    s_aload_n X d8_insertRests_17 rfl rfl,
    s_get X (ci := 8) (f := 4) rfl (fun w h => List.mem_cons_of_mem _ (uC_8 w h)) (by decide) (List.mem_cons_of_mem _ mgw_280) d8_insertRests_18 rfl,
    s_iload_n X d8_insertRests_21 rfl rfl,
    s_iconst X d8_insertRests_22 rfl rfl,
    s_iadd X d8_insertRests_23 rfl,
    s_aald X (kd := 3) rfl rfl d8_insertRests_24 rfl,
    s_iload X d8_insertRests_25 rfl,
    s_iald X rfl d8_insertRests_27 rfl,
    s_iconst X d8_insertRests_28 rfl rfl,
    s_icmp_eq X d8_insertRests_29 rfl rfl,
    s_aload_n X d8_insertRests_32 rfl rfl,
    s_get X (ci := 8) (f := 5) rfl (fun w h => List.mem_cons_of_mem _ (uC_8 w h)) (by decide) (List.mem_cons_of_mem _ mgw_281) d8_insertRests_33 rfl,
    s_aload_n X d8_insertRests_36 rfl rfl,
    s_get X (ci := 8) (f := 4) rfl (fun w h => List.mem_cons_of_mem _ (uC_8 w h)) (by decide) (List.mem_cons_of_mem _ mgw_280) d8_insertRests_37 rfl,
    s_iload_n X d8_insertRests_40 rfl rfl,
    s_aald X (kd := 3) rfl rfl d8_insertRests_41 rfl,
    s_iload_n X d8_insertRests_42 rfl rfl,
    s_iconst X d8_insertRests_43 rfl rfl,
    s_imul X d8_insertRests_44 rfl,
    s_iload X d8_insertRests_45 rfl,
    s_aload_n X d8_insertRests_47 rfl rfl,
    s_get X (ci := 8) (f := 6) rfl (fun w h => List.mem_cons_of_mem _ (uC_8 w h)) (by decide) (List.mem_cons_of_mem _ mgw_282) d8_insertRests_48 rfl,
    s_iload X d8_insertRests_51 rfl,
    s_iald X rfl d8_insertRests_53 rfl,
    s_iadd X d8_insertRests_54 rfl,
    s_iload X d8_insertRests_55 rfl,
    s_callS ri_NW_ok X ⟨ri_cB X 5 mgw_552 (List.mem_cons_of_mem _ mgw_10) (List.mem_cons_of_mem _ mgw_550) (by decide +kernel) rfl rfl ⟨by decide, by decide⟩, X.2.2.2.2.1 _ (List.mem_cons_of_mem _ mgw_551)⟩ d8_insertRests_57 rfl,
    s_if_ne X d8_insertRests_60 rfl rfl,
    s_vret X hret hlocks d8_insertRests_63,
    s_iinc X d8_insertRests_64 rfl (by decide) rfl,
    s_goto X d8_insertRests_67 rfl,
    s_vret X hret hlocks d8_insertRests_70, trivial⟩
theorem d8_narrow_0 : decode c8_narrow 0 = .ok (.aload_n 0, 1) := by decide +kernel
theorem d8_narrow_1 : decode c8_narrow 1 = .ok (.getfield 11, 3) := by decide +kernel
theorem d8_narrow_4 : decode c8_narrow 4 = .ok (.iload_n 1, 1) := by decide +kernel
theorem d8_narrow_5 : decode c8_narrow 5 = .ok (.aaload, 1) := by decide +kernel
theorem d8_narrow_6 : decode c8_narrow 6 = .ok (.astore_n 3, 1) := by decide +kernel
theorem d8_narrow_7 : decode c8_narrow 7 = .ok (.iconst 0, 1) := by decide +kernel
theorem d8_narrow_8 : decode c8_narrow 8 = .ok (.istore 4, 2) := by decide +kernel
theorem d8_narrow_10 : decode c8_narrow 10 = .ok (.iconst 0, 1) := by decide +kernel
theorem d8_narrow_11 : decode c8_narrow 11 = .ok (.istore 5, 2) := by decide +kernel
theorem d8_narrow_13 : decode c8_narrow 13 = .ok (.iload 5, 2) := by decide +kernel
theorem d8_narrow_15 : decode c8_narrow 15 = .ok (.aload_n 0, 1) := by decide +kernel
theorem d8_narrow_16 : decode c8_narrow 16 = .ok (.getfield 42, 3) := by decide +kernel
theorem d8_narrow_19 : decode c8_narrow 19 = .ok (.getfield 87, 3) := by decide +kernel
theorem d8_narrow_22 : decode c8_narrow 22 = .ok (.iload_n 1, 1) := by decide +kernel
theorem d8_narrow_23 : decode c8_narrow 23 = .ok (.aaload, 1) := by decide +kernel
theorem d8_narrow_24 : decode c8_narrow 24 = .ok (.invokevirtual 99, 3) := by decide +kernel
theorem d8_narrow_27 : decode c8_narrow 27 = .ok (.if_icmp .ge 54, 3) := by decide +kernel
theorem d8_narrow_30 : decode c8_narrow 30 = .ok (.aload_n 3, 1) := by decide +kernel
theorem d8_narrow_31 : decode c8_narrow 31 = .ok (.iload 5, 2) := by decide +kernel
theorem d8_narrow_33 : decode c8_narrow 33 = .ok (.iconst 4, 1) := by decide +kernel
theorem d8_narrow_34 : decode c8_narrow 34 = .ok (.imul, 1) := by decide +kernel
theorem d8_narrow_35 : decode c8_narrow 35 = .ok (.iaload, 1) := by decide +kernel
theorem d8_narrow_36 : decode c8_narrow 36 = .ok (.iconst (-1), 1) := by decide +kernel
theorem d8_narrow_37 : decode c8_narrow 37 = .ok (.if_icmp .eq 38, 3) := by decide +kernel
theorem d8_narrow_40 : decode c8_narrow 40 = .ok (.iload 4, 2) := by decide +kernel
theorem d8_narrow_42 : decode c8_narrow 42 = .ok (.iload_n 2, 1) := by decide +kernel
theorem d8_narrow_43 : decode c8_narrow 43 = .ok (.if_icmp .ge 19, 3) := by decide +kernel
theorem d8_narrow_46 : decode c8_narrow 46 = .ok (.iinc 4 1, 3) := by decide +kernel
theorem d8_narrow_49 : decode c8_narrow 49 = .ok (.aload_n 0, 1) := by decide +kernel
theorem d8_narrow_50 : decode c8_narrow 50 = .ok (.iload 5, 2) := by decide +kernel
theorem d8_narrow_52 : decode c8_narrow 52 = .ok (.iload 4, 2) := by decide +kernel
theorem d8_narrow_54 : decode c8_narrow 54 = .ok (.iconst 1, 1) := by decide +kernel
theorem d8_narrow_55 : decode c8_narrow 55 = .ok (.isub, 1) := by decide +kernel
theorem d8_narrow_56 : decode c8_narrow 56 = .ok (.invokevirtual 143, 3) := by decide +kernel
theorem d8_narrow_59 : decode c8_narrow 59 = .ok (.goto 16, 3) := by decide +kernel
theorem d8_narrow_62 : decode c8_narrow 62 = .ok (.aload_n 0, 1) := by decide +kernel
theorem d8_narrow_63 : decode c8_narrow 63 = .ok (.iconst 1, 1) := by decide +kernel
theorem d8_narrow_64 : decode c8_narrow 64 = .ok (.putfield 58, 3) := by decide +kernel
theorem d8_narrow_67 : decode c8_narrow 67 = .ok (.aload_n 0, 1) := by decide +kernel
theorem d8_narrow_68 : decode c8_narrow 68 = .ok (.aload_n 3, 1) := by decide +kernel
theorem d8_narrow_69 : decode c8_narrow 69 = .ok (.iload 5, 2) := by decide +kernel
theorem d8_narrow_71 : decode c8_narrow 71 = .ok (.iload_n 2, 1) := by decide +kernel
theorem d8_narrow_72 : decode c8_narrow 72 = .ok (.invokevirtual 146, 3) := by decide +kernel
theorem d8_narrow_75 : decode c8_narrow 75 = .ok (.iinc 5 1, 3) := by decide +kernel
theorem d8_narrow_78 : decode c8_narrow 78 = .ok (.goto (-65), 3) := by decide +kernel
theorem d8_narrow_81 : decode c8_narrow 81 = .ok (.return_, 1) := by decide +kernel
def t8_narrow (l : Launch) (Po : ri_O) : List ri_S := [i_al 1 0,
  i_get 2 8 4,
  i_il 3 1,
  i_aald 4 3,
  i_as 5 3,
  i_con 6 0,
  i_is 7 4,
  i_con 8 0,
  i_is 9 5,
  i_il 10 5,
  i_al 11 0,
  i_get 12 8 1,
  i_get 13 4 2,
  i_il 14 1,
  i_aald 15 2,
  i_callV 16 1 5 (ri_Ev l y5_kept w5_kept r5_kept 0 0) 0 0 0 0,
  i_icmp 17 45 (fun x y => y ≤ x),
  i_al 18 3,
  i_il 19 5,
  i_con 20 4,
  i_bin 21 (fun x y => x * y),
  i_ald 22 0,
  i_con 23 (-1),
  i_icmp 24 43 (fun x y => x = y),
  i_il 25 4,
  i_il 26 2,
  i_icmp 27 35 (fun x y => y ≤ x),
  i_inc 28 4 1,
  i_al 29 0,
  i_il 30 5,
  i_il 31 4,
  i_con 32 1,
  i_bin 33 (fun x y => x - y),
  i_callV 34 3 8 (ri_Ev l y8_sortIn w8_sortIn r8_sortIn 0 0) 0 0 0 0,
  i_goto 43,
  i_al 36 0,
  i_con 37 1,
  i_put 38 8 14 ri_isZ,
  i_al 39 0,
  i_al 40 3,
  i_il 41 5,
  i_il 42 2,
  i_callV 43 4 8 (ri_Ev l y8_dropWorst w8_dropWorst r8_dropWorst 0 0) 0 0 0 0,
  i_inc 44 5 1,
  i_goto 9,
  i_vret Po 0 0]
set_option maxRecDepth 20000 in
set_option maxHeartbeats 4000000 in
theorem z8_narrow (l : Launch) (Po : ri_O) (p : Program) (e : Env) (s : State) (m : MethodId) (args : Array Value) (below : List Frame) (meth : Method) (c : Code) (D : va_G) (ka : Nat → ClassId) (sa : Nat → Nat) (base : Nat) (X : ri_X p s m args c c8_narrow 6 w8_narrow "ChoraleSearch$RowSearch" D ka sa base) (hret : meth.sig.returnType = none) (hlocks : meth.locks = false) (hname : meth.name = "narrow") : ri_clo (ri_W p l e r8_narrow s m args below meth c D ka sa base 6 (MQ below (ri_Qc D ka sa base Po) args s 0 0 (fun q => base ≤ q)) p8_narrow) (t8_narrow l Po) := by
  refine ri_clo_of ?_
  unfold t8_narrow
  exact ⟨s_aload_n X d8_narrow_0 rfl rfl,
    s_get X (ci := 8) (f := 4) rfl (fun w h => List.mem_cons_of_mem _ (uC_8 w h)) (by decide) (List.mem_cons_of_mem _ mgw_280) d8_narrow_1 rfl,
    s_iload_n X d8_narrow_4 rfl rfl,
    s_aald X (kd := 3) rfl rfl d8_narrow_5 rfl,
    s_astore_n X d8_narrow_6 rfl (by decide) rfl,
    s_iconst X d8_narrow_7 rfl rfl,
    s_istore X d8_narrow_8 (by decide) rfl,
    s_iconst X d8_narrow_10 rfl rfl,
    s_istore X d8_narrow_11 (by decide) rfl,
    s_iload X d8_narrow_13 rfl,
    s_aload_n X d8_narrow_15 rfl rfl,
    s_get X (ci := 8) (f := 1) rfl (fun w h => List.mem_cons_of_mem _ (uC_8 w h)) (by decide) (List.mem_cons_of_mem _ mgw_277) d8_narrow_16 rfl,
    s_getN X (ci := 4) (f := 2) rfl (fun w h => List.mem_cons_of_mem _ (uC_4 w h)) (by decide) (List.mem_of_getElem? (i := 34) rfl) d8_narrow_19 rfl,
    s_iload_n X d8_narrow_22 rfl rfl,
    s_aald X (kd := 2) rfl rfl d8_narrow_23 rfl,
    s_callVN ri_NW_ok X (na := 0) (ci := 5) rfl ⟨ri_cN X 0 mgw_520 (List.mem_cons_of_mem _ mgw_8) (List.mem_of_getElem? (i := 63) rfl) (by decide +kernel) rfl rfl ⟨by decide, by decide⟩, X.2.2.2.2.1 _ (List.mem_cons_of_mem _ mgw_519), X.2.2.2.2.1 _ (List.mem_cons_of_mem _ mgp_28)⟩ d8_narrow_24 rfl,
    s_icmp_ge X d8_narrow_27 rfl rfl,
    s_aload_n X d8_narrow_30 rfl rfl,
    s_iload X d8_narrow_31 rfl,
    s_iconst X d8_narrow_33 rfl rfl,
    s_imul X d8_narrow_34 rfl,
    s_iald X rfl d8_narrow_35 rfl,
    s_iconst X d8_narrow_36 rfl rfl,
    s_icmp_eq X d8_narrow_37 rfl rfl,
    s_iload X d8_narrow_40 rfl,
    s_iload_n X d8_narrow_42 rfl rfl,
    s_icmp_ge X d8_narrow_43 rfl rfl,
    s_iinc X d8_narrow_46 rfl (by decide) rfl,
    s_aload_n X d8_narrow_49 rfl rfl,
    s_iload X d8_narrow_50 rfl,
    s_iload X d8_narrow_52 rfl,
    s_iconst X d8_narrow_54 rfl rfl,
    s_isub X d8_narrow_55 rfl,
    s_callV ri_NW_ok X (na := 2) (ci := 8) rfl ⟨ri_cB X 2 mgw_629 (List.mem_cons_of_mem _ mgw_10) (List.mem_cons_of_mem _ mgw_626) (by decide +kernel) rfl rfl ⟨by decide, by decide⟩, X.2.2.2.2.1 _ (List.mem_cons_of_mem _ mgw_628), X.2.2.2.2.1 _ (List.mem_cons_of_mem _ mgp_46)⟩ d8_narrow_56 rfl,
    s_goto X d8_narrow_59 rfl,
    s_aload_n X d8_narrow_62 rfl rfl,
    s_iconst X d8_narrow_63 rfl rfl,
    s_put X (ci := 8) (f := 14) rfl (fun w h => List.mem_cons_of_mem _ (uC_8 w h)) (by decide) tC_8 oC_8 nC_8 rfl ri_ok_bool (List.mem_cons_of_mem _ mgw_292) d8_narrow_64 rfl,
    s_aload_n X d8_narrow_67 rfl rfl,
    s_aload_n X d8_narrow_68 rfl rfl,
    s_iload X d8_narrow_69 rfl,
    s_iload_n X d8_narrow_71 rfl rfl,
    s_callV ri_NW_ok X (na := 3) (ci := 8) rfl ⟨ri_cB X 3 mgw_633 (List.mem_cons_of_mem _ mgw_10) (List.mem_cons_of_mem _ mgw_630) (by decide +kernel) rfl rfl ⟨by decide, by decide⟩, X.2.2.2.2.1 _ (List.mem_cons_of_mem _ mgw_632), X.2.2.2.2.1 _ (List.mem_cons_of_mem _ mgp_47)⟩ d8_narrow_72 rfl,
    s_iinc X d8_narrow_75 rfl (by decide) rfl,
    s_goto X d8_narrow_78 rfl,
    s_vret X hret hlocks d8_narrow_81, trivial⟩
theorem d8_sortIn_0 : decode c8_sortIn 0 = .ok (.iload_n 2, 1) := by decide +kernel
theorem d8_sortIn_1 : decode c8_sortIn 1 = .ok (.istore_n 3, 1) := by decide +kernel
theorem d8_sortIn_2 : decode c8_sortIn 2 = .ok (.iload_n 3, 1) := by decide +kernel
theorem d8_sortIn_3 : decode c8_sortIn 3 = .ok (.ifCond .le 49, 3) := by decide +kernel
theorem d8_sortIn_6 : decode c8_sortIn 6 = .ok (.aload_n 0, 1) := by decide +kernel
theorem d8_sortIn_7 : decode c8_sortIn 7 = .ok (.getfield 16, 3) := by decide +kernel
theorem d8_sortIn_10 : decode c8_sortIn 10 = .ok (.aload_n 0, 1) := by decide +kernel
theorem d8_sortIn_11 : decode c8_sortIn 11 = .ok (.getfield 26, 3) := by decide +kernel
theorem d8_sortIn_14 : decode c8_sortIn 14 = .ok (.iload_n 3, 1) := by decide +kernel
theorem d8_sortIn_15 : decode c8_sortIn 15 = .ok (.iconst 1, 1) := by decide +kernel
theorem d8_sortIn_16 : decode c8_sortIn 16 = .ok (.isub, 1) := by decide +kernel
theorem d8_sortIn_17 : decode c8_sortIn 17 = .ok (.iaload, 1) := by decide +kernel
theorem d8_sortIn_18 : decode c8_sortIn 18 = .ok (.iconst 4, 1) := by decide +kernel
theorem d8_sortIn_19 : decode c8_sortIn 19 = .ok (.imul, 1) := by decide +kernel
theorem d8_sortIn_20 : decode c8_sortIn 20 = .ok (.iaload, 1) := by decide +kernel
theorem d8_sortIn_21 : decode c8_sortIn 21 = .ok (.aload_n 0, 1) := by decide +kernel
theorem d8_sortIn_22 : decode c8_sortIn 22 = .ok (.getfield 16, 3) := by decide +kernel
theorem d8_sortIn_25 : decode c8_sortIn 25 = .ok (.iload_n 1, 1) := by decide +kernel
theorem d8_sortIn_26 : decode c8_sortIn 26 = .ok (.iconst 4, 1) := by decide +kernel
theorem d8_sortIn_27 : decode c8_sortIn 27 = .ok (.imul, 1) := by decide +kernel
theorem d8_sortIn_28 : decode c8_sortIn 28 = .ok (.iaload, 1) := by decide +kernel
theorem d8_sortIn_29 : decode c8_sortIn 29 = .ok (.if_icmp .le 23, 3) := by decide +kernel
theorem d8_sortIn_32 : decode c8_sortIn 32 = .ok (.aload_n 0, 1) := by decide +kernel
theorem d8_sortIn_33 : decode c8_sortIn 33 = .ok (.getfield 26, 3) := by decide +kernel
theorem d8_sortIn_36 : decode c8_sortIn 36 = .ok (.iload_n 3, 1) := by decide +kernel
theorem d8_sortIn_37 : decode c8_sortIn 37 = .ok (.aload_n 0, 1) := by decide +kernel
theorem d8_sortIn_38 : decode c8_sortIn 38 = .ok (.getfield 26, 3) := by decide +kernel
theorem d8_sortIn_41 : decode c8_sortIn 41 = .ok (.iload_n 3, 1) := by decide +kernel
theorem d8_sortIn_42 : decode c8_sortIn 42 = .ok (.iconst 1, 1) := by decide +kernel
theorem d8_sortIn_43 : decode c8_sortIn 43 = .ok (.isub, 1) := by decide +kernel
theorem d8_sortIn_44 : decode c8_sortIn 44 = .ok (.iaload, 1) := by decide +kernel
theorem d8_sortIn_45 : decode c8_sortIn 45 = .ok (.iastore, 1) := by decide +kernel
theorem d8_sortIn_46 : decode c8_sortIn 46 = .ok (.iinc 3 (-1), 3) := by decide +kernel
theorem d8_sortIn_49 : decode c8_sortIn 49 = .ok (.goto (-47), 3) := by decide +kernel
theorem d8_sortIn_52 : decode c8_sortIn 52 = .ok (.aload_n 0, 1) := by decide +kernel
theorem d8_sortIn_53 : decode c8_sortIn 53 = .ok (.getfield 26, 3) := by decide +kernel
theorem d8_sortIn_56 : decode c8_sortIn 56 = .ok (.iload_n 3, 1) := by decide +kernel
theorem d8_sortIn_57 : decode c8_sortIn 57 = .ok (.iload_n 1, 1) := by decide +kernel
theorem d8_sortIn_58 : decode c8_sortIn 58 = .ok (.iastore, 1) := by decide +kernel
theorem d8_sortIn_59 : decode c8_sortIn 59 = .ok (.return_, 1) := by decide +kernel
def t8_sortIn (l : Launch) (Po : ri_O) : List ri_S := [i_il 1 2,
  i_is 2 3,
  i_il 3 3,
  i_if 4 34 (fun x => x ≤ 0),
  i_al 5 0,
  i_get 6 8 5,
  i_al 7 0,
  i_get 8 8 9,
  i_il 9 3,
  i_con 10 1,
  i_bin 11 (fun x y => x - y),
  i_ald 12 0,
  i_con 13 4,
  i_bin 14 (fun x y => x * y),
  i_ald 15 0,
  i_al 16 0,
  i_get 17 8 5,
  i_il 18 1,
  i_con 19 4,
  i_bin 20 (fun x y => x * y),
  i_ald 21 0,
  i_icmp 22 34 (fun x y => x ≤ y),
  i_al 23 0,
  i_get 24 8 9,
  i_il 25 3,
  i_al 26 0,
  i_get 27 8 9,
  i_il 28 3,
  i_con 29 1,
  i_bin 30 (fun x y => x - y),
  i_ald 31 0,
  i_ast 32 0 (fun x => x),
  i_inc 33 3 (-1),
  i_goto 2,
  i_al 35 0,
  i_get 36 8 9,
  i_il 37 3,
  i_il 38 1,
  i_ast 39 0 (fun x => x),
  i_vret Po 0 0]
set_option maxRecDepth 20000 in
set_option maxHeartbeats 4000000 in
theorem z8_sortIn (l : Launch) (Po : ri_O) (p : Program) (e : Env) (s : State) (m : MethodId) (args : Array Value) (below : List Frame) (meth : Method) (c : Code) (D : va_G) (ka : Nat → ClassId) (sa : Nat → Nat) (base : Nat) (X : ri_X p s m args c c8_sortIn 4 w8_sortIn "ChoraleSearch$RowSearch" D ka sa base) (hret : meth.sig.returnType = none) (hlocks : meth.locks = false) (hname : meth.name = "sortIn") : ri_clo (ri_W p l e r8_sortIn s m args below meth c D ka sa base 4 (MQ below (ri_Qc D ka sa base Po) args s 0 0 (fun q => base ≤ q)) p8_sortIn) (t8_sortIn l Po) := by
  refine ri_clo_of ?_
  unfold t8_sortIn
  exact ⟨s_iload_n X d8_sortIn_0 rfl rfl,
    s_istore_n X d8_sortIn_1 rfl (by decide) rfl,
    s_iload_n X d8_sortIn_2 rfl rfl,
    s_if_le X d8_sortIn_3 rfl rfl,
    s_aload_n X d8_sortIn_6 rfl rfl,
    s_get X (ci := 8) (f := 5) rfl (fun w h => List.mem_cons_of_mem _ (uC_8 w h)) (by decide) (List.mem_cons_of_mem _ mgw_281) d8_sortIn_7 rfl,
    s_aload_n X d8_sortIn_10 rfl rfl,
    s_get X (ci := 8) (f := 9) rfl (fun w h => List.mem_cons_of_mem _ (uC_8 w h)) (by decide) (List.mem_cons_of_mem _ mgw_285) d8_sortIn_11 rfl,
    s_iload_n X d8_sortIn_14 rfl rfl,
    s_iconst X d8_sortIn_15 rfl rfl,
    s_isub X d8_sortIn_16 rfl,
    s_iald X rfl d8_sortIn_17 rfl,
    s_iconst X d8_sortIn_18 rfl rfl,
    s_imul X d8_sortIn_19 rfl,
    s_iald X rfl d8_sortIn_20 rfl,
    s_aload_n X d8_sortIn_21 rfl rfl,
    s_get X (ci := 8) (f := 5) rfl (fun w h => List.mem_cons_of_mem _ (uC_8 w h)) (by decide) (List.mem_cons_of_mem _ mgw_281) d8_sortIn_22 rfl,
    s_iload_n X d8_sortIn_25 rfl rfl,
    s_iconst X d8_sortIn_26 rfl rfl,
    s_imul X d8_sortIn_27 rfl,
    s_iald X rfl d8_sortIn_28 rfl,
    s_icmp_le X d8_sortIn_29 rfl rfl,
    s_aload_n X d8_sortIn_32 rfl rfl,
    s_get X (ci := 8) (f := 9) rfl (fun w h => List.mem_cons_of_mem _ (uC_8 w h)) (by decide) (List.mem_cons_of_mem _ mgw_285) d8_sortIn_33 rfl,
    s_iload_n X d8_sortIn_36 rfl rfl,
    s_aload_n X d8_sortIn_37 rfl rfl,
    s_get X (ci := 8) (f := 9) rfl (fun w h => List.mem_cons_of_mem _ (uC_8 w h)) (by decide) (List.mem_cons_of_mem _ mgw_285) d8_sortIn_38 rfl,
    s_iload_n X d8_sortIn_41 rfl rfl,
    s_iconst X d8_sortIn_42 rfl rfl,
    s_isub X d8_sortIn_43 rfl,
    s_iald X rfl d8_sortIn_44 rfl,
    s_iast X rfl d8_sortIn_45 rfl,
    s_iinc X d8_sortIn_46 rfl (by decide) rfl,
    s_goto X d8_sortIn_49 rfl,
    s_aload_n X d8_sortIn_52 rfl rfl,
    s_get X (ci := 8) (f := 9) rfl (fun w h => List.mem_cons_of_mem _ (uC_8 w h)) (by decide) (List.mem_cons_of_mem _ mgw_285) d8_sortIn_53 rfl,
    s_iload_n X d8_sortIn_56 rfl rfl,
    s_iload_n X d8_sortIn_57 rfl rfl,
    s_iast X rfl d8_sortIn_58 rfl,
    s_vret X hret hlocks d8_sortIn_59, trivial⟩
theorem d8_dropWorst_0 : decode c8_dropWorst 0 = .ok (.aload_n 0, 1) := by decide +kernel
theorem d8_dropWorst_1 : decode c8_dropWorst 1 = .ok (.getfield 26, 3) := by decide +kernel
theorem d8_dropWorst_4 : decode c8_dropWorst 4 = .ok (.iload_n 3, 1) := by decide +kernel
theorem d8_dropWorst_5 : decode c8_dropWorst 5 = .ok (.iconst 1, 1) := by decide +kernel
theorem d8_dropWorst_6 : decode c8_dropWorst 6 = .ok (.isub, 1) := by decide +kernel
theorem d8_dropWorst_7 : decode c8_dropWorst 7 = .ok (.iaload, 1) := by decide +kernel
theorem d8_dropWorst_8 : decode c8_dropWorst 8 = .ok (.istore 4, 2) := by decide +kernel
theorem d8_dropWorst_10 : decode c8_dropWorst 10 = .ok (.aload_n 0, 1) := by decide +kernel
theorem d8_dropWorst_11 : decode c8_dropWorst 11 = .ok (.getfield 16, 3) := by decide +kernel
theorem d8_dropWorst_14 : decode c8_dropWorst 14 = .ok (.iload_n 2, 1) := by decide +kernel
theorem d8_dropWorst_15 : decode c8_dropWorst 15 = .ok (.iconst 4, 1) := by decide +kernel
theorem d8_dropWorst_16 : decode c8_dropWorst 16 = .ok (.imul, 1) := by decide +kernel
theorem d8_dropWorst_17 : decode c8_dropWorst 17 = .ok (.iaload, 1) := by decide +kernel
theorem d8_dropWorst_18 : decode c8_dropWorst 18 = .ok (.aload_n 0, 1) := by decide +kernel
theorem d8_dropWorst_19 : decode c8_dropWorst 19 = .ok (.getfield 16, 3) := by decide +kernel
theorem d8_dropWorst_22 : decode c8_dropWorst 22 = .ok (.iload 4, 2) := by decide +kernel
theorem d8_dropWorst_24 : decode c8_dropWorst 24 = .ok (.iconst 4, 1) := by decide +kernel
theorem d8_dropWorst_25 : decode c8_dropWorst 25 = .ok (.imul, 1) := by decide +kernel
theorem d8_dropWorst_26 : decode c8_dropWorst 26 = .ok (.iaload, 1) := by decide +kernel
theorem d8_dropWorst_27 : decode c8_dropWorst 27 = .ok (.if_icmp .ge 21, 3) := by decide +kernel
theorem d8_dropWorst_30 : decode c8_dropWorst 30 = .ok (.aload_n 1, 1) := by decide +kernel
theorem d8_dropWorst_31 : decode c8_dropWorst 31 = .ok (.iload 4, 2) := by decide +kernel
theorem d8_dropWorst_33 : decode c8_dropWorst 33 = .ok (.iconst 4, 1) := by decide +kernel
theorem d8_dropWorst_34 : decode c8_dropWorst 34 = .ok (.imul, 1) := by decide +kernel
theorem d8_dropWorst_35 : decode c8_dropWorst 35 = .ok (.iconst (-1), 1) := by decide +kernel
theorem d8_dropWorst_36 : decode c8_dropWorst 36 = .ok (.iastore, 1) := by decide +kernel
theorem d8_dropWorst_37 : decode c8_dropWorst 37 = .ok (.aload_n 0, 1) := by decide +kernel
theorem d8_dropWorst_38 : decode c8_dropWorst 38 = .ok (.iload_n 2, 1) := by decide +kernel
theorem d8_dropWorst_39 : decode c8_dropWorst 39 = .ok (.iload_n 3, 1) := by decide +kernel
theorem d8_dropWorst_40 : decode c8_dropWorst 40 = .ok (.iconst 1, 1) := by decide +kernel
theorem d8_dropWorst_41 : decode c8_dropWorst 41 = .ok (.isub, 1) := by decide +kernel
theorem d8_dropWorst_42 : decode c8_dropWorst 42 = .ok (.invokevirtual 143, 3) := by decide +kernel
theorem d8_dropWorst_45 : decode c8_dropWorst 45 = .ok (.goto 9, 3) := by decide +kernel
theorem d8_dropWorst_48 : decode c8_dropWorst 48 = .ok (.aload_n 1, 1) := by decide +kernel
theorem d8_dropWorst_49 : decode c8_dropWorst 49 = .ok (.iload_n 2, 1) := by decide +kernel
theorem d8_dropWorst_50 : decode c8_dropWorst 50 = .ok (.iconst 4, 1) := by decide +kernel
theorem d8_dropWorst_51 : decode c8_dropWorst 51 = .ok (.imul, 1) := by decide +kernel
theorem d8_dropWorst_52 : decode c8_dropWorst 52 = .ok (.iconst (-1), 1) := by decide +kernel
theorem d8_dropWorst_53 : decode c8_dropWorst 53 = .ok (.iastore, 1) := by decide +kernel
theorem d8_dropWorst_54 : decode c8_dropWorst 54 = .ok (.return_, 1) := by decide +kernel
def t8_dropWorst (l : Launch) (Po : ri_O) : List ri_S := [i_al 1 0,
  i_get 2 8 9,
  i_il 3 3,
  i_con 4 1,
  i_bin 5 (fun x y => x - y),
  i_ald 6 0,
  i_is 7 4,
  i_al 8 0,
  i_get 9 8 5,
  i_il 10 2,
  i_con 11 4,
  i_bin 12 (fun x y => x * y),
  i_ald 13 0,
  i_al 14 0,
  i_get 15 8 5,
  i_il 16 4,
  i_con 17 4,
  i_bin 18 (fun x y => x * y),
  i_ald 19 0,
  i_icmp 20 33 (fun x y => y ≤ x),
  i_al 21 1,
  i_il 22 4,
  i_con 23 4,
  i_bin 24 (fun x y => x * y),
  i_con 25 (-1),
  i_ast 26 0 (fun x => x),
  i_al 27 0,
  i_il 28 2,
  i_il 29 3,
  i_con 30 1,
  i_bin 31 (fun x y => x - y),
  i_callV 32 3 8 (ri_Ev l y8_sortIn w8_sortIn r8_sortIn 0 0) 0 0 0 0,
  i_goto 39,
  i_al 34 1,
  i_il 35 2,
  i_con 36 4,
  i_bin 37 (fun x y => x * y),
  i_con 38 (-1),
  i_ast 39 0 (fun x => x),
  i_vret Po 0 0]
set_option maxRecDepth 20000 in
set_option maxHeartbeats 4000000 in
theorem z8_dropWorst (l : Launch) (Po : ri_O) (p : Program) (e : Env) (s : State) (m : MethodId) (args : Array Value) (below : List Frame) (meth : Method) (c : Code) (D : va_G) (ka : Nat → ClassId) (sa : Nat → Nat) (base : Nat) (X : ri_X p s m args c c8_dropWorst 5 w8_dropWorst "ChoraleSearch$RowSearch" D ka sa base) (hret : meth.sig.returnType = none) (hlocks : meth.locks = false) (hname : meth.name = "dropWorst") : ri_clo (ri_W p l e r8_dropWorst s m args below meth c D ka sa base 5 (MQ below (ri_Qc D ka sa base Po) args s 0 0 (fun q => base ≤ q)) p8_dropWorst) (t8_dropWorst l Po) := by
  refine ri_clo_of ?_
  unfold t8_dropWorst
  exact ⟨s_aload_n X d8_dropWorst_0 rfl rfl,
    s_get X (ci := 8) (f := 9) rfl (fun w h => List.mem_cons_of_mem _ (uC_8 w h)) (by decide) (List.mem_cons_of_mem _ mgw_285) d8_dropWorst_1 rfl,
    s_iload_n X d8_dropWorst_4 rfl rfl,
    s_iconst X d8_dropWorst_5 rfl rfl,
    s_isub X d8_dropWorst_6 rfl,
    s_iald X rfl d8_dropWorst_7 rfl,
    s_istore X d8_dropWorst_8 (by decide) rfl,
    s_aload_n X d8_dropWorst_10 rfl rfl,
    s_get X (ci := 8) (f := 5) rfl (fun w h => List.mem_cons_of_mem _ (uC_8 w h)) (by decide) (List.mem_cons_of_mem _ mgw_281) d8_dropWorst_11 rfl,
    s_iload_n X d8_dropWorst_14 rfl rfl,
    s_iconst X d8_dropWorst_15 rfl rfl,
    s_imul X d8_dropWorst_16 rfl,
    s_iald X rfl d8_dropWorst_17 rfl,
    s_aload_n X d8_dropWorst_18 rfl rfl,
    s_get X (ci := 8) (f := 5) rfl (fun w h => List.mem_cons_of_mem _ (uC_8 w h)) (by decide) (List.mem_cons_of_mem _ mgw_281) d8_dropWorst_19 rfl,
    s_iload X d8_dropWorst_22 rfl,
    s_iconst X d8_dropWorst_24 rfl rfl,
    s_imul X d8_dropWorst_25 rfl,
    s_iald X rfl d8_dropWorst_26 rfl,
    s_icmp_ge X d8_dropWorst_27 rfl rfl,
    s_aload_n X d8_dropWorst_30 rfl rfl,
    s_iload X d8_dropWorst_31 rfl,
    s_iconst X d8_dropWorst_33 rfl rfl,
    s_imul X d8_dropWorst_34 rfl,
    s_iconst X d8_dropWorst_35 rfl rfl,
    s_iast X rfl d8_dropWorst_36 rfl,
    s_aload_n X d8_dropWorst_37 rfl rfl,
    s_iload_n X d8_dropWorst_38 rfl rfl,
    s_iload_n X d8_dropWorst_39 rfl rfl,
    s_iconst X d8_dropWorst_40 rfl rfl,
    s_isub X d8_dropWorst_41 rfl,
    s_callV ri_NW_ok X (na := 2) (ci := 8) rfl ⟨ri_cB X 2 mgw_629 (List.mem_cons_of_mem _ mgw_10) (List.mem_cons_of_mem _ mgw_626) (by decide +kernel) rfl rfl ⟨by decide, by decide⟩, X.2.2.2.2.1 _ (List.mem_cons_of_mem _ mgw_628), X.2.2.2.2.1 _ (List.mem_cons_of_mem _ mgp_46)⟩ d8_dropWorst_42 rfl,
    s_goto X d8_dropWorst_45 rfl,
    s_aload_n X d8_dropWorst_48 rfl rfl,
    s_iload_n X d8_dropWorst_49 rfl rfl,
    s_iconst X d8_dropWorst_50 rfl rfl,
    s_imul X d8_dropWorst_51 rfl,
    s_iconst X d8_dropWorst_52 rfl rfl,
    s_iast X rfl d8_dropWorst_53 rfl,
    s_vret X hret hlocks d8_dropWorst_54, trivial⟩
theorem d8_listAlive_0 : decode c8_listAlive 0 = .ok (.aload_n 0, 1) := by decide +kernel
theorem d8_listAlive_1 : decode c8_listAlive 1 = .ok (.iconst 0, 1) := by decide +kernel
theorem d8_listAlive_2 : decode c8_listAlive 2 = .ok (.putfield 126, 3) := by decide +kernel
theorem d8_listAlive_5 : decode c8_listAlive 5 = .ok (.iconst 0, 1) := by decide +kernel
theorem d8_listAlive_6 : decode c8_listAlive 6 = .ok (.istore_n 2, 1) := by decide +kernel
theorem d8_listAlive_7 : decode c8_listAlive 7 = .ok (.iload_n 2, 1) := by decide +kernel
theorem d8_listAlive_8 : decode c8_listAlive 8 = .ok (.aload_n 0, 1) := by decide +kernel
theorem d8_listAlive_9 : decode c8_listAlive 9 = .ok (.getfield 42, 3) := by decide +kernel
theorem d8_listAlive_12 : decode c8_listAlive 12 = .ok (.getfield 87, 3) := by decide +kernel
theorem d8_listAlive_15 : decode c8_listAlive 15 = .ok (.iload_n 1, 1) := by decide +kernel
theorem d8_listAlive_16 : decode c8_listAlive 16 = .ok (.aaload, 1) := by decide +kernel
theorem d8_listAlive_17 : decode c8_listAlive 17 = .ok (.invokevirtual 99, 3) := by decide +kernel
theorem d8_listAlive_20 : decode c8_listAlive 20 = .ok (.if_icmp .ge 43, 3) := by decide +kernel
theorem d8_listAlive_23 : decode c8_listAlive 23 = .ok (.aload_n 0, 1) := by decide +kernel
theorem d8_listAlive_24 : decode c8_listAlive 24 = .ok (.getfield 11, 3) := by decide +kernel
theorem d8_listAlive_27 : decode c8_listAlive 27 = .ok (.iload_n 1, 1) := by decide +kernel
theorem d8_listAlive_28 : decode c8_listAlive 28 = .ok (.aaload, 1) := by decide +kernel
theorem d8_listAlive_29 : decode c8_listAlive 29 = .ok (.iload_n 2, 1) := by decide +kernel
theorem d8_listAlive_30 : decode c8_listAlive 30 = .ok (.iconst 4, 1) := by decide +kernel
theorem d8_listAlive_31 : decode c8_listAlive 31 = .ok (.imul, 1) := by decide +kernel
theorem d8_listAlive_32 : decode c8_listAlive 32 = .ok (.iaload, 1) := by decide +kernel
theorem d8_listAlive_33 : decode c8_listAlive 33 = .ok (.iconst (-1), 1) := by decide +kernel
theorem d8_listAlive_34 : decode c8_listAlive 34 = .ok (.if_icmp .eq 23, 3) := by decide +kernel
theorem d8_listAlive_37 : decode c8_listAlive 37 = .ok (.aload_n 0, 1) := by decide +kernel
theorem d8_listAlive_38 : decode c8_listAlive 38 = .ok (.getfield 23, 3) := by decide +kernel
theorem d8_listAlive_41 : decode c8_listAlive 41 = .ok (.aload_n 0, 1) := by decide +kernel
theorem d8_listAlive_42 : decode c8_listAlive 42 = .ok (.getfield 126, 3) := by decide +kernel
theorem d8_listAlive_45 : decode c8_listAlive 45 = .ok (.iload_n 2, 1) := by decide +kernel
theorem d8_listAlive_46 : decode c8_listAlive 46 = .ok (.iastore, 1) := by decide +kernel
theorem d8_listAlive_47 : decode c8_listAlive 47 = .ok (.aload_n 0, 1) := by decide +kernel
theorem d8_listAlive_48 : decode c8_listAlive 48 = .ok (.dup, 1) := by decide +kernel
theorem d8_listAlive_49 : decode c8_listAlive 49 = .ok (.getfield 126, 3) := by decide +kernel
theorem d8_listAlive_52 : decode c8_listAlive 52 = .ok (.iconst 1, 1) := by decide +kernel
theorem d8_listAlive_53 : decode c8_listAlive 53 = .ok (.iadd, 1) := by decide +kernel
theorem d8_listAlive_54 : decode c8_listAlive 54 = .ok (.putfield 126, 3) := by decide +kernel
theorem d8_listAlive_57 : decode c8_listAlive 57 = .ok (.iinc 2 1, 3) := by decide +kernel
theorem d8_listAlive_60 : decode c8_listAlive 60 = .ok (.goto (-53), 3) := by decide +kernel
theorem d8_listAlive_63 : decode c8_listAlive 63 = .ok (.return_, 1) := by decide +kernel
def t8_listAlive (l : Launch) (Po : ri_O) : List ri_S := [i_al 1 0,
  i_con 2 0,
  i_put 3 8 8 ri_isI,
  i_con 4 0,
  i_is 5 2,
  i_il 6 2,
  i_al 7 0,
  i_get 8 8 1,
  i_get 9 4 2,
  i_il 10 1,
  i_aald 11 2,
  i_callV 12 1 5 (ri_Ev l y5_kept w5_kept r5_kept 0 0) 0 0 0 0,
  i_icmp 13 37 (fun x y => y ≤ x),
  i_al 14 0,
  i_get 15 8 4,
  i_il 16 1,
  i_aald 17 3,
  i_il 18 2,
  i_con 19 4,
  i_bin 20 (fun x y => x * y),
  i_ald 21 0,
  i_con 22 (-1),
  i_icmp 23 35 (fun x y => x = y),
  i_al 24 0,
  i_get 25 8 7,
  i_al 26 0,
  i_get 27 8 8,
  i_il 28 2,
  i_ast 29 0 (fun x => x),
  i_al 30 0,
  i_dup 31,
  i_get 32 8 8,
  i_con 33 1,
  i_bin 34 (fun x y => x + y),
  i_put 35 8 8 ri_isI,
  i_inc 36 2 1,
  i_goto 5,
  i_vret Po 0 0]
set_option maxRecDepth 20000 in
set_option maxHeartbeats 4000000 in
theorem z8_listAlive (l : Launch) (Po : ri_O) (p : Program) (e : Env) (s : State) (m : MethodId) (args : Array Value) (below : List Frame) (meth : Method) (c : Code) (D : va_G) (ka : Nat → ClassId) (sa : Nat → Nat) (base : Nat) (X : ri_X p s m args c c8_listAlive 3 w8_listAlive "ChoraleSearch$RowSearch" D ka sa base) (hret : meth.sig.returnType = none) (hlocks : meth.locks = false) (hname : meth.name = "listAlive") : ri_clo (ri_W p l e r8_listAlive s m args below meth c D ka sa base 3 (MQ below (ri_Qc D ka sa base Po) args s 0 0 (fun q => base ≤ q)) p8_listAlive) (t8_listAlive l Po) := by
  refine ri_clo_of ?_
  unfold t8_listAlive
  exact ⟨s_aload_n X d8_listAlive_0 rfl rfl,
    s_iconst X d8_listAlive_1 rfl rfl,
    s_put X (ci := 8) (f := 8) rfl (fun w h => List.mem_cons_of_mem _ (uC_8 w h)) (by decide) tC_8 oC_8 nC_8 rfl ri_ok_int (List.mem_cons_of_mem _ mgw_284) d8_listAlive_2 rfl,
    s_iconst X d8_listAlive_5 rfl rfl,
    s_istore_n X d8_listAlive_6 rfl (by decide) rfl,
    s_iload_n X d8_listAlive_7 rfl rfl,
    s_aload_n X d8_listAlive_8 rfl rfl,
    s_get X (ci := 8) (f := 1) rfl (fun w h => List.mem_cons_of_mem _ (uC_8 w h)) (by decide) (List.mem_cons_of_mem _ mgw_277) d8_listAlive_9 rfl,
    s_getN X (ci := 4) (f := 2) rfl (fun w h => List.mem_cons_of_mem _ (uC_4 w h)) (by decide) (List.mem_of_getElem? (i := 34) rfl) d8_listAlive_12 rfl,
    s_iload_n X d8_listAlive_15 rfl rfl,
    s_aald X (kd := 2) rfl rfl d8_listAlive_16 rfl,
    s_callVN ri_NW_ok X (na := 0) (ci := 5) rfl ⟨ri_cN X 0 mgw_520 (List.mem_cons_of_mem _ mgw_8) (List.mem_of_getElem? (i := 63) rfl) (by decide +kernel) rfl rfl ⟨by decide, by decide⟩, X.2.2.2.2.1 _ (List.mem_cons_of_mem _ mgw_519), X.2.2.2.2.1 _ (List.mem_cons_of_mem _ mgp_28)⟩ d8_listAlive_17 rfl,
    s_icmp_ge X d8_listAlive_20 rfl rfl,
    s_aload_n X d8_listAlive_23 rfl rfl,
    s_get X (ci := 8) (f := 4) rfl (fun w h => List.mem_cons_of_mem _ (uC_8 w h)) (by decide) (List.mem_cons_of_mem _ mgw_280) d8_listAlive_24 rfl,
    s_iload_n X d8_listAlive_27 rfl rfl,
    s_aald X (kd := 3) rfl rfl d8_listAlive_28 rfl,
    s_iload_n X d8_listAlive_29 rfl rfl,
    s_iconst X d8_listAlive_30 rfl rfl,
    s_imul X d8_listAlive_31 rfl,
    s_iald X rfl d8_listAlive_32 rfl,
    s_iconst X d8_listAlive_33 rfl rfl,
    s_icmp_eq X d8_listAlive_34 rfl rfl,
    s_aload_n X d8_listAlive_37 rfl rfl,
    s_get X (ci := 8) (f := 7) rfl (fun w h => List.mem_cons_of_mem _ (uC_8 w h)) (by decide) (List.mem_cons_of_mem _ mgw_283) d8_listAlive_38 rfl,
    s_aload_n X d8_listAlive_41 rfl rfl,
    s_get X (ci := 8) (f := 8) rfl (fun w h => List.mem_cons_of_mem _ (uC_8 w h)) (by decide) (List.mem_cons_of_mem _ mgw_284) d8_listAlive_42 rfl,
    s_iload_n X d8_listAlive_45 rfl rfl,
    s_iast X rfl d8_listAlive_46 rfl,
    s_aload_n X d8_listAlive_47 rfl rfl,
    s_dup X d8_listAlive_48 rfl,
    s_get X (ci := 8) (f := 8) rfl (fun w h => List.mem_cons_of_mem _ (uC_8 w h)) (by decide) (List.mem_cons_of_mem _ mgw_284) d8_listAlive_49 rfl,
    s_iconst X d8_listAlive_52 rfl rfl,
    s_iadd X d8_listAlive_53 rfl,
    s_put X (ci := 8) (f := 8) rfl (fun w h => List.mem_cons_of_mem _ (uC_8 w h)) (by decide) tC_8 oC_8 nC_8 rfl ri_ok_int (List.mem_cons_of_mem _ mgw_284) d8_listAlive_54 rfl,
    s_iinc X d8_listAlive_57 rfl (by decide) rfl,
    s_goto X d8_listAlive_60 rfl,
    s_vret X hret hlocks d8_listAlive_63, trivial⟩
theorem d8_gatherRows_0 : decode c8_gatherRows 0 = .ok (.aload_n 0, 1) := by decide +kernel
theorem d8_gatherRows_1 : decode c8_gatherRows 1 = .ok (.getfield 29, 3) := by decide +kernel
theorem d8_gatherRows_4 : decode c8_gatherRows 4 = .ok (.iconst (-1), 1) := by decide +kernel
theorem d8_gatherRows_5 : decode c8_gatherRows 5 = .ok (.invokestatic 93, 3) := by decide +kernel
theorem d8_gatherRows_8 : decode c8_gatherRows 8 = .ok (.iconst 0, 1) := by decide +kernel
theorem d8_gatherRows_9 : decode c8_gatherRows 9 = .ok (.istore_n 1, 1) := by decide +kernel
theorem d8_gatherRows_10 : decode c8_gatherRows 10 = .ok (.iload_n 1, 1) := by decide +kernel
theorem d8_gatherRows_11 : decode c8_gatherRows 11 = .ok (.aload_n 0, 1) := by decide +kernel
theorem d8_gatherRows_12 : decode c8_gatherRows 12 = .ok (.getfield 126, 3) := by decide +kernel
theorem d8_gatherRows_15 : decode c8_gatherRows 15 = .ok (.if_icmp .ge 65, 3) := by decide +kernel
theorem d8_gatherRows_18 : decode c8_gatherRows 18 = .ok (.iconst 0, 1) := by decide +kernel
theorem d8_gatherRows_19 : decode c8_gatherRows 19 = .ok (.istore_n 2, 1) := by decide +kernel
theorem d8_gatherRows_20 : decode c8_gatherRows 20 = .ok (.iload_n 2, 1) := by decide +kernel
theorem d8_gatherRows_21 : decode c8_gatherRows 21 = .ok (.iconst 4, 1) := by decide +kernel
theorem d8_gatherRows_22 : decode c8_gatherRows 22 = .ok (.if_icmp .ge 52, 3) := by decide +kernel
theorem d8_gatherRows_25 : decode c8_gatherRows 25 = .ok (.aload_n 0, 1) := by decide +kernel
theorem d8_gatherRows_26 : decode c8_gatherRows 26 = .ok (.getfield 23, 3) := by decide +kernel
theorem d8_gatherRows_29 : decode c8_gatherRows 29 = .ok (.iload_n 1, 1) := by decide +kernel
theorem d8_gatherRows_30 : decode c8_gatherRows 30 = .ok (.iaload, 1) := by decide +kernel
theorem d8_gatherRows_31 : decode c8_gatherRows 31 = .ok (.iconst 4, 1) := by decide +kernel
theorem d8_gatherRows_32 : decode c8_gatherRows 32 = .ok (.imul, 1) := by decide +kernel
theorem d8_gatherRows_33 : decode c8_gatherRows 33 = .ok (.iload_n 2, 1) := by decide +kernel
theorem d8_gatherRows_34 : decode c8_gatherRows 34 = .ok (.iadd, 1) := by decide +kernel
theorem d8_gatherRows_35 : decode c8_gatherRows 35 = .ok (.istore_n 3, 1) := by decide +kernel
theorem d8_gatherRows_36 : decode c8_gatherRows 36 = .ok (.aload_n 0, 1) := by decide +kernel
theorem d8_gatherRows_37 : decode c8_gatherRows 37 = .ok (.getfield 11, 3) := by decide +kernel
theorem d8_gatherRows_40 : decode c8_gatherRows 40 = .ok (.iconst 0, 1) := by decide +kernel
theorem d8_gatherRows_41 : decode c8_gatherRows 41 = .ok (.aaload, 1) := by decide +kernel
theorem d8_gatherRows_42 : decode c8_gatherRows 42 = .ok (.iload_n 3, 1) := by decide +kernel
theorem d8_gatherRows_43 : decode c8_gatherRows 43 = .ok (.iaload, 1) := by decide +kernel
theorem d8_gatherRows_44 : decode c8_gatherRows 44 = .ok (.iconst (-1), 1) := by decide +kernel
theorem d8_gatherRows_45 : decode c8_gatherRows 45 = .ok (.if_icmp .eq 23, 3) := by decide +kernel
theorem d8_gatherRows_48 : decode c8_gatherRows 48 = .ok (.aload_n 0, 1) := by decide +kernel
theorem d8_gatherRows_49 : decode c8_gatherRows 49 = .ok (.getfield 32, 3) := by decide +kernel
theorem d8_gatherRows_52 : decode c8_gatherRows 52 = .ok (.aload_n 0, 1) := by decide +kernel
theorem d8_gatherRows_53 : decode c8_gatherRows 53 = .ok (.getfield 29, 3) := by decide +kernel
theorem d8_gatherRows_56 : decode c8_gatherRows 56 = .ok (.iconst 0, 1) := by decide +kernel
theorem d8_gatherRows_57 : decode c8_gatherRows 57 = .ok (.aload_n 0, 1) := by decide +kernel
theorem d8_gatherRows_58 : decode c8_gatherRows 58 = .ok (.getfield 16, 3) := by decide +kernel
theorem d8_gatherRows_61 : decode c8_gatherRows 61 = .ok (.iload_n 3, 1) := by decide +kernel
theorem d8_gatherRows_62 : decode c8_gatherRows 62 = .ok (.iaload, 1) := by decide +kernel
theorem d8_gatherRows_63 : decode c8_gatherRows 63 = .ok (.iload_n 3, 1) := by decide +kernel
theorem d8_gatherRows_64 : decode c8_gatherRows 64 = .ok (.invokestatic 118, 3) := by decide +kernel
theorem d8_gatherRows_67 : decode c8_gatherRows 67 = .ok (.pop, 1) := by decide +kernel
theorem d8_gatherRows_68 : decode c8_gatherRows 68 = .ok (.iinc 2 1, 3) := by decide +kernel
theorem d8_gatherRows_71 : decode c8_gatherRows 71 = .ok (.goto (-51), 3) := by decide +kernel
theorem d8_gatherRows_74 : decode c8_gatherRows 74 = .ok (.iinc 1 1, 3) := by decide +kernel
theorem d8_gatherRows_77 : decode c8_gatherRows 77 = .ok (.goto (-67), 3) := by decide +kernel
theorem d8_gatherRows_80 : decode c8_gatherRows 80 = .ok (.return_, 1) := by decide +kernel
def t8_gatherRows (l : Launch) (Po : ri_O) : List ri_S := [i_al 1 0,
  i_get 2 8 10,
  i_con 3 (-1),
  i_call 4 2 (ri_Ev l y15_fill w15_fill r15_fill 0 0) 0 0 0 0,
  i_con 5 0,
  i_is 6 1,
  i_il 7 1,
  i_al 8 0,
  i_get 9 8 8,
  i_icmp 10 48 (fun x y => y ≤ x),
  i_con 11 0,
  i_is 12 2,
  i_il 13 2,
  i_con 14 4,
  i_icmp 15 46 (fun x y => y ≤ x),
  i_al 16 0,
  i_get 17 8 7,
  i_il 18 1,
  i_ald 19 0,
  i_con 20 4,
  i_bin 21 (fun x y => x * y),
  i_il 22 2,
  i_bin 23 (fun x y => x + y),
  i_is 24 3,
  i_al 25 0,
  i_get 26 8 4,
  i_con 27 0,
  i_aald 28 3,
  i_il 29 3,
  i_ald 30 0,
  i_con 31 (-1),
  i_icmp 32 44 (fun x y => x = y),
  i_al 33 0,
  i_get 34 8 11,
  i_al 35 0,
  i_get 36 8 10,
  i_con 37 0,
  i_al 38 0,
  i_get 39 8 5,
  i_il 40 3,
  i_ald 41 0,
  i_il 42 3,
  i_call 43 5 (ri_Ev l y8_insert w8_insert r8_insert 0 0) 0 0 0 0,
  i_pop 44,
  i_inc 45 2 1,
  i_goto 12,
  i_inc 47 1 1,
  i_goto 6,
  i_vret Po 0 0]
set_option maxRecDepth 20000 in
set_option maxHeartbeats 4000000 in
theorem z8_gatherRows (l : Launch) (Po : ri_O) (p : Program) (e : Env) (s : State) (m : MethodId) (args : Array Value) (below : List Frame) (meth : Method) (c : Code) (D : va_G) (ka : Nat → ClassId) (sa : Nat → Nat) (base : Nat) (X : ri_X p s m args c c8_gatherRows 4 w8_gatherRows "ChoraleSearch$RowSearch" D ka sa base) (hret : meth.sig.returnType = none) (hlocks : meth.locks = false) (hname : meth.name = "gatherRows") : ri_clo (ri_W p l e r8_gatherRows s m args below meth c D ka sa base 4 (MQ below (ri_Qc D ka sa base Po) args s 0 0 (fun q => base ≤ q)) p8_gatherRows) (t8_gatherRows l Po) := by
  refine ri_clo_of ?_
  unfold t8_gatherRows
  exact ⟨s_aload_n X d8_gatherRows_0 rfl rfl,
    s_get X (ci := 8) (f := 10) rfl (fun w h => List.mem_cons_of_mem _ (uC_8 w h)) (by decide) (List.mem_cons_of_mem _ mgw_286) d8_gatherRows_1 rfl,
    s_iconst X d8_gatherRows_4 rfl rfl,
    s_callS ri_NW_ok X ⟨ri_cB X 2 mgw_106 (List.mem_cons_of_mem _ mgw_4) (List.mem_cons_of_mem _ mgw_516) (by decide +kernel) rfl rfl ⟨by decide, by decide⟩, X.2.2.2.2.1 _ (List.mem_cons_of_mem _ mgw_105)⟩ d8_gatherRows_5 rfl,
    s_iconst X d8_gatherRows_8 rfl rfl,
    s_istore_n X d8_gatherRows_9 rfl (by decide) rfl,
    s_iload_n X d8_gatherRows_10 rfl rfl,
    s_aload_n X d8_gatherRows_11 rfl rfl,
    s_get X (ci := 8) (f := 8) rfl (fun w h => List.mem_cons_of_mem _ (uC_8 w h)) (by decide) (List.mem_cons_of_mem _ mgw_284) d8_gatherRows_12 rfl,
    s_icmp_ge X d8_gatherRows_15 rfl rfl,
    s_iconst X d8_gatherRows_18 rfl rfl,
    s_istore_n X d8_gatherRows_19 rfl (by decide) rfl,
    s_iload_n X d8_gatherRows_20 rfl rfl,
    s_iconst X d8_gatherRows_21 rfl rfl,
    s_icmp_ge X d8_gatherRows_22 rfl rfl,
    s_aload_n X d8_gatherRows_25 rfl rfl,
    s_get X (ci := 8) (f := 7) rfl (fun w h => List.mem_cons_of_mem _ (uC_8 w h)) (by decide) (List.mem_cons_of_mem _ mgw_283) d8_gatherRows_26 rfl,
    s_iload_n X d8_gatherRows_29 rfl rfl,
    s_iald X rfl d8_gatherRows_30 rfl,
    s_iconst X d8_gatherRows_31 rfl rfl,
    s_imul X d8_gatherRows_32 rfl,
    s_iload_n X d8_gatherRows_33 rfl rfl,
    s_iadd X d8_gatherRows_34 rfl,
    s_istore_n X d8_gatherRows_35 rfl (by decide) rfl,
    s_aload_n X d8_gatherRows_36 rfl rfl,
    s_get X (ci := 8) (f := 4) rfl (fun w h => List.mem_cons_of_mem _ (uC_8 w h)) (by decide) (List.mem_cons_of_mem _ mgw_280) d8_gatherRows_37 rfl,
    s_iconst X d8_gatherRows_40 rfl rfl,
    s_aald X (kd := 3) rfl rfl d8_gatherRows_41 rfl,
    s_iload_n X d8_gatherRows_42 rfl rfl,
    s_iald X rfl d8_gatherRows_43 rfl,
    s_iconst X d8_gatherRows_44 rfl rfl,
    s_icmp_eq X d8_gatherRows_45 rfl rfl,
    s_aload_n X d8_gatherRows_48 rfl rfl,
    s_get X (ci := 8) (f := 11) rfl (fun w h => List.mem_cons_of_mem _ (uC_8 w h)) (by decide) (List.mem_cons_of_mem _ mgw_287) d8_gatherRows_49 rfl,
    s_aload_n X d8_gatherRows_52 rfl rfl,
    s_get X (ci := 8) (f := 10) rfl (fun w h => List.mem_cons_of_mem _ (uC_8 w h)) (by decide) (List.mem_cons_of_mem _ mgw_286) d8_gatherRows_53 rfl,
    s_iconst X d8_gatherRows_56 rfl rfl,
    s_aload_n X d8_gatherRows_57 rfl rfl,
    s_get X (ci := 8) (f := 5) rfl (fun w h => List.mem_cons_of_mem _ (uC_8 w h)) (by decide) (List.mem_cons_of_mem _ mgw_281) d8_gatherRows_58 rfl,
    s_iload_n X d8_gatherRows_61 rfl rfl,
    s_iald X rfl d8_gatherRows_62 rfl,
    s_iload_n X d8_gatherRows_63 rfl rfl,
    s_callS ri_NW_ok X ⟨ri_cB X 5 mgw_552 (List.mem_cons_of_mem _ mgw_10) (List.mem_cons_of_mem _ mgw_550) (by decide +kernel) rfl rfl ⟨by decide, by decide⟩, X.2.2.2.2.1 _ (List.mem_cons_of_mem _ mgw_551)⟩ d8_gatherRows_64 rfl,
    s_pop X d8_gatherRows_67 rfl,
    s_iinc X d8_gatherRows_68 rfl (by decide) rfl,
    s_goto X d8_gatherRows_71 rfl,
    s_iinc X d8_gatherRows_74 rfl (by decide) rfl,
    s_goto X d8_gatherRows_77 rfl,
    s_vret X hret hlocks d8_gatherRows_80, trivial⟩
theorem d8_traceRows_0 : decode c8_traceRows 0 = .ok (.iconst 0, 1) := by decide +kernel
theorem d8_traceRows_1 : decode c8_traceRows 1 = .ok (.istore_n 1, 1) := by decide +kernel
theorem d8_traceRows_2 : decode c8_traceRows 2 = .ok (.iload_n 1, 1) := by decide +kernel
theorem d8_traceRows_3 : decode c8_traceRows 3 = .ok (.iconst 4, 1) := by decide +kernel
theorem d8_traceRows_4 : decode c8_traceRows 4 = .ok (.if_icmp .ge 91, 3) := by decide +kernel
theorem d8_traceRows_7 : decode c8_traceRows 7 = .ok (.aload_n 0, 1) := by decide +kernel
theorem d8_traceRows_8 : decode c8_traceRows 8 = .ok (.getfield 29, 3) := by decide +kernel
theorem d8_traceRows_11 : decode c8_traceRows 11 = .ok (.iload_n 1, 1) := by decide +kernel
theorem d8_traceRows_12 : decode c8_traceRows 12 = .ok (.iaload, 1) := by decide +kernel
theorem d8_traceRows_13 : decode c8_traceRows 13 = .ok (.iconst (-1), 1) := by decide +kernel
theorem d8_traceRows_14 : decode c8_traceRows 14 = .ok (.if_icmp .eq 81, 3) := by decide +kernel
theorem d8_traceRows_17 : decode c8_traceRows 17 = .ok (.aload_n 0, 1) := by decide +kernel
theorem d8_traceRows_18 : decode c8_traceRows 18 = .ok (.getfield 29, 3) := by decide +kernel
theorem d8_traceRows_21 : decode c8_traceRows 21 = .ok (.iload_n 1, 1) := by decide +kernel
theorem d8_traceRows_22 : decode c8_traceRows 22 = .ok (.iaload, 1) := by decide +kernel
theorem d8_traceRows_23 : decode c8_traceRows 23 = .ok (.istore_n 2, 1) := by decide +kernel
theorem d8_traceRows_24 : decode c8_traceRows 24 = .ok (.iconst 0, 1) := by decide +kernel
theorem d8_traceRows_25 : decode c8_traceRows 25 = .ok (.istore_n 3, 1) := by decide +kernel
theorem d8_traceRows_26 : decode c8_traceRows 26 = .ok (.iload_n 3, 1) := by decide +kernel
theorem d8_traceRows_27 : decode c8_traceRows 27 = .ok (.aload_n 0, 1) := by decide +kernel
theorem d8_traceRows_28 : decode c8_traceRows 28 = .ok (.getfield 38, 3) := by decide +kernel
theorem d8_traceRows_31 : decode c8_traceRows 31 = .ok (.getfield 65, 3) := by decide +kernel
theorem d8_traceRows_34 : decode c8_traceRows 34 = .ok (.if_icmp .ge 45, 3) := by decide +kernel
theorem d8_traceRows_37 : decode c8_traceRows 37 = .ok (.aload_n 0, 1) := by decide +kernel
theorem d8_traceRows_38 : decode c8_traceRows 38 = .ok (.getfield 35, 3) := by decide +kernel
theorem d8_traceRows_41 : decode c8_traceRows 41 = .ok (.iload_n 1, 1) := by decide +kernel
theorem d8_traceRows_42 : decode c8_traceRows 42 = .ok (.bipush 16, 2) := by decide +kernel
theorem d8_traceRows_44 : decode c8_traceRows 44 = .ok (.imul, 1) := by decide +kernel
theorem d8_traceRows_45 : decode c8_traceRows 45 = .ok (.iload_n 3, 1) := by decide +kernel
theorem d8_traceRows_46 : decode c8_traceRows 46 = .ok (.iadd, 1) := by decide +kernel
theorem d8_traceRows_47 : decode c8_traceRows 47 = .ok (.aload_n 0, 1) := by decide +kernel
theorem d8_traceRows_48 : decode c8_traceRows 48 = .ok (.getfield 42, 3) := by decide +kernel
theorem d8_traceRows_51 : decode c8_traceRows 51 = .ok (.getfield 87, 3) := by decide +kernel
theorem d8_traceRows_54 : decode c8_traceRows 54 = .ok (.iload_n 3, 1) := by decide +kernel
theorem d8_traceRows_55 : decode c8_traceRows 55 = .ok (.aaload, 1) := by decide +kernel
theorem d8_traceRows_56 : decode c8_traceRows 56 = .ok (.getfield 105, 3) := by decide +kernel
theorem d8_traceRows_59 : decode c8_traceRows 59 = .ok (.iload_n 2, 1) := by decide +kernel
theorem d8_traceRows_60 : decode c8_traceRows 60 = .ok (.iconst 4, 1) := by decide +kernel
theorem d8_traceRows_61 : decode c8_traceRows 61 = .ok (.idiv, 1) := by decide +kernel
theorem d8_traceRows_62 : decode c8_traceRows 62 = .ok (.iaload, 1) := by decide +kernel
theorem d8_traceRows_63 : decode c8_traceRows 63 = .ok (.iastore, 1) := by decide +kernel
theorem d8_traceRows_64 : decode c8_traceRows 64 = .ok (.aload_n 0, 1) := by decide +kernel
theorem d8_traceRows_65 : decode c8_traceRows 65 = .ok (.getfield 11, 3) := by decide +kernel
theorem d8_traceRows_68 : decode c8_traceRows 68 = .ok (.iload_n 3, 1) := by decide +kernel
theorem d8_traceRows_69 : decode c8_traceRows 69 = .ok (.aaload, 1) := by decide +kernel
theorem d8_traceRows_70 : decode c8_traceRows 70 = .ok (.iload_n 2, 1) := by decide +kernel
theorem d8_traceRows_71 : decode c8_traceRows 71 = .ok (.iaload, 1) := by decide +kernel
theorem d8_traceRows_72 : decode c8_traceRows 72 = .ok (.istore_n 2, 1) := by decide +kernel
theorem d8_traceRows_73 : decode c8_traceRows 73 = .ok (.iinc 3 1, 3) := by decide +kernel
theorem d8_traceRows_76 : decode c8_traceRows 76 = .ok (.goto (-50), 3) := by decide +kernel
theorem d8_traceRows_79 : decode c8_traceRows 79 = .ok (.aload_n 0, 1) := by decide +kernel
theorem d8_traceRows_80 : decode c8_traceRows 80 = .ok (.dup, 1) := by decide +kernel
theorem d8_traceRows_81 : decode c8_traceRows 81 = .ok (.getfield 54, 3) := by decide +kernel
theorem d8_traceRows_84 : decode c8_traceRows 84 = .ok (.iconst 1, 1) := by decide +kernel
theorem d8_traceRows_85 : decode c8_traceRows 85 = .ok (.iadd, 1) := by decide +kernel
theorem d8_traceRows_86 : decode c8_traceRows 86 = .ok (.putfield 54, 3) := by decide +kernel
theorem d8_traceRows_89 : decode c8_traceRows 89 = .ok (.iinc 1 1, 3) := by decide +kernel
theorem d8_traceRows_92 : decode c8_traceRows 92 = .ok (.goto (-90), 3) := by decide +kernel
theorem d8_traceRows_95 : decode c8_traceRows 95 = .ok (.return_, 1) := by decide +kernel
def t8_traceRows (l : Launch) (Po : ri_O) : List ri_S := [i_con 1 0,
  i_is 2 1,
  i_il 3 1,
  i_con 4 4,
  i_icmp 5 58 (fun x y => y ≤ x),
  i_al 6 0,
  i_get 7 8 10,
  i_il 8 1,
  i_ald 9 0,
  i_con 10 (-1),
  i_icmp 11 58 (fun x y => x = y),
  i_al 12 0,
  i_get 13 8 10,
  i_il 14 1,
  i_ald 15 0,
  i_is 16 2,
  i_con 17 0,
  i_is 18 3,
  i_il 19 3,
  i_al 20 0,
  i_get 21 8 0,
  i_get 22 0 0,
  i_icmp 23 50 (fun x y => y ≤ x),
  i_al 24 0,
  i_get 25 8 12,
  i_il 26 1,
  i_con 27 16,
  i_bin 28 (fun x y => x * y),
  i_il 29 3,
  i_bin 30 (fun x y => x + y),
  i_al 31 0,
  i_get 32 8 1,
  i_get 33 4 2,
  i_il 34 3,
  i_aald 35 2,
  i_get 36 5 1,
  i_il 37 2,
  i_con 38 4,
  i_div 39 (fun x y => x / y),
  i_ald 40 0,
  i_ast 41 0 (fun x => x),
  i_al 42 0,
  i_get 43 8 4,
  i_il 44 3,
  i_aald 45 3,
  i_il 46 2,
  i_ald 47 0,
  i_is 48 2,
  i_inc 49 3 1,
  i_goto 18,
  i_al 51 0,
  i_dup 52,
  i_get 53 8 13,
  i_con 54 1,
  i_bin 55 (fun x y => x + y),
  i_put 56 8 13 ri_isI,
  i_inc 57 1 1,
  i_goto 2,
  i_vret Po 0 0]
set_option maxRecDepth 20000 in
set_option maxHeartbeats 4000000 in
theorem z8_traceRows (l : Launch) (Po : ri_O) (p : Program) (e : Env) (s : State) (m : MethodId) (args : Array Value) (below : List Frame) (meth : Method) (c : Code) (D : va_G) (ka : Nat → ClassId) (sa : Nat → Nat) (base : Nat) (X : ri_X p s m args c c8_traceRows 4 w8_traceRows "ChoraleSearch$RowSearch" D ka sa base) (hret : meth.sig.returnType = none) (hlocks : meth.locks = false) (hname : meth.name = "traceRows") : ri_clo (ri_W p l e r8_traceRows s m args below meth c D ka sa base 4 (MQ below (ri_Qc D ka sa base Po) args s 0 0 (fun q => base ≤ q)) p8_traceRows) (t8_traceRows l Po) := by
  refine ri_clo_of ?_
  unfold t8_traceRows
  exact ⟨s_iconst X d8_traceRows_0 rfl rfl,
    s_istore_n X d8_traceRows_1 rfl (by decide) rfl,
    s_iload_n X d8_traceRows_2 rfl rfl,
    s_iconst X d8_traceRows_3 rfl rfl,
    s_icmp_ge X d8_traceRows_4 rfl rfl,
    s_aload_n X d8_traceRows_7 rfl rfl,
    s_get X (ci := 8) (f := 10) rfl (fun w h => List.mem_cons_of_mem _ (uC_8 w h)) (by decide) (List.mem_cons_of_mem _ mgw_286) d8_traceRows_8 rfl,
    s_iload_n X d8_traceRows_11 rfl rfl,
    s_iald X rfl d8_traceRows_12 rfl,
    s_iconst X d8_traceRows_13 rfl rfl,
    s_icmp_eq X d8_traceRows_14 rfl rfl,
    s_aload_n X d8_traceRows_17 rfl rfl,
    s_get X (ci := 8) (f := 10) rfl (fun w h => List.mem_cons_of_mem _ (uC_8 w h)) (by decide) (List.mem_cons_of_mem _ mgw_286) d8_traceRows_18 rfl,
    s_iload_n X d8_traceRows_21 rfl rfl,
    s_iald X rfl d8_traceRows_22 rfl,
    s_istore_n X d8_traceRows_23 rfl (by decide) rfl,
    s_iconst X d8_traceRows_24 rfl rfl,
    s_istore_n X d8_traceRows_25 rfl (by decide) rfl,
    s_iload_n X d8_traceRows_26 rfl rfl,
    s_aload_n X d8_traceRows_27 rfl rfl,
    s_get X (ci := 8) (f := 0) rfl (fun w h => List.mem_cons_of_mem _ (uC_8 w h)) (by decide) (List.mem_cons_of_mem _ mgw_276) d8_traceRows_28 rfl,
    s_getN X (ci := 0) (f := 0) rfl (fun w h => List.mem_cons_of_mem _ (uC_0 w h)) (by decide) (List.mem_of_getElem? (i := 4) rfl) d8_traceRows_31 rfl,
    s_icmp_ge X d8_traceRows_34 rfl rfl,
    s_aload_n X d8_traceRows_37 rfl rfl,
    s_get X (ci := 8) (f := 12) rfl (fun w h => List.mem_cons_of_mem _ (uC_8 w h)) (by decide) (List.mem_cons_of_mem _ mgw_289) d8_traceRows_38 rfl,
    s_iload_n X d8_traceRows_41 rfl rfl,
    s_bipush X d8_traceRows_42 rfl rfl,
    s_imul X d8_traceRows_44 rfl,
    s_iload_n X d8_traceRows_45 rfl rfl,
    s_iadd X d8_traceRows_46 rfl,
    s_aload_n X d8_traceRows_47 rfl rfl,
    s_get X (ci := 8) (f := 1) rfl (fun w h => List.mem_cons_of_mem _ (uC_8 w h)) (by decide) (List.mem_cons_of_mem _ mgw_277) d8_traceRows_48 rfl,
    s_getN X (ci := 4) (f := 2) rfl (fun w h => List.mem_cons_of_mem _ (uC_4 w h)) (by decide) (List.mem_of_getElem? (i := 34) rfl) d8_traceRows_51 rfl,
    s_iload_n X d8_traceRows_54 rfl rfl,
    s_aald X (kd := 2) rfl rfl d8_traceRows_55 rfl,
    s_getN X (ci := 5) (f := 1) rfl (fun w h => List.mem_cons_of_mem _ (uC_5 w h)) (by decide) (List.mem_of_getElem? (i := 31) rfl) d8_traceRows_56 rfl,
    s_iload_n X d8_traceRows_59 rfl rfl,
    s_iconst X d8_traceRows_60 rfl rfl,
    s_idiv X d8_traceRows_61 rfl,
    s_iald X rfl d8_traceRows_62 rfl,
    s_iast X rfl d8_traceRows_63 rfl,
    s_aload_n X d8_traceRows_64 rfl rfl,
    s_get X (ci := 8) (f := 4) rfl (fun w h => List.mem_cons_of_mem _ (uC_8 w h)) (by decide) (List.mem_cons_of_mem _ mgw_280) d8_traceRows_65 rfl,
    s_iload_n X d8_traceRows_68 rfl rfl,
    s_aald X (kd := 3) rfl rfl d8_traceRows_69 rfl,
    s_iload_n X d8_traceRows_70 rfl rfl,
    s_iald X rfl d8_traceRows_71 rfl,
    s_istore_n X d8_traceRows_72 rfl (by decide) rfl,
    s_iinc X d8_traceRows_73 rfl (by decide) rfl,
    s_goto X d8_traceRows_76 rfl,
    s_aload_n X d8_traceRows_79 rfl rfl,
    s_dup X d8_traceRows_80 rfl,
    s_get X (ci := 8) (f := 13) rfl (fun w h => List.mem_cons_of_mem _ (uC_8 w h)) (by decide) (List.mem_cons_of_mem _ mgw_290) d8_traceRows_81 rfl,
    s_iconst X d8_traceRows_84 rfl rfl,
    s_iadd X d8_traceRows_85 rfl,
    s_put X (ci := 8) (f := 13) rfl (fun w h => List.mem_cons_of_mem _ (uC_8 w h)) (by decide) tC_8 oC_8 nC_8 rfl ri_ok_int (List.mem_cons_of_mem _ mgw_290) d8_traceRows_86 rfl,
    s_iinc X d8_traceRows_89 rfl (by decide) rfl,
    s_goto X d8_traceRows_92 rfl,
    s_vret X hret hlocks d8_traceRows_95, trivial⟩
theorem d8_codeAt_0 : decode c8_codeAt 0 = .ok (.aload_n 0, 1) := by decide +kernel
theorem d8_codeAt_1 : decode c8_codeAt 1 = .ok (.getfield 35, 3) := by decide +kernel
theorem d8_codeAt_4 : decode c8_codeAt 4 = .ok (.iload_n 1, 1) := by decide +kernel
theorem d8_codeAt_5 : decode c8_codeAt 5 = .ok (.bipush 16, 2) := by decide +kernel
theorem d8_codeAt_7 : decode c8_codeAt 7 = .ok (.imul, 1) := by decide +kernel
theorem d8_codeAt_8 : decode c8_codeAt 8 = .ok (.iload_n 2, 1) := by decide +kernel
theorem d8_codeAt_9 : decode c8_codeAt 9 = .ok (.iadd, 1) := by decide +kernel
theorem d8_codeAt_10 : decode c8_codeAt 10 = .ok (.iaload, 1) := by decide +kernel
theorem d8_codeAt_11 : decode c8_codeAt 11 = .ok (.ireturn, 1) := by decide +kernel
def t8_codeAt (l : Launch) (Po : ri_O) : List ri_S := [i_al 1 0,
  i_get 2 8 12,
  i_il 3 1,
  i_con 4 16,
  i_bin 5 (fun x y => x * y),
  i_il 6 2,
  i_bin 7 (fun x y => x + y),
  i_ald 8 0,
  i_ret Po 0 0]
set_option maxRecDepth 20000 in
set_option maxHeartbeats 4000000 in
theorem z8_codeAt (l : Launch) (Po : ri_O) (p : Program) (e : Env) (s : State) (m : MethodId) (args : Array Value) (below : List Frame) (meth : Method) (c : Code) (D : va_G) (ka : Nat → ClassId) (sa : Nat → Nat) (base : Nat) (X : ri_X p s m args c c8_codeAt 3 w8_codeAt "ChoraleSearch$RowSearch" D ka sa base) (hret : meth.sig.returnType = (some .int)) (hlocks : meth.locks = false) (hname : meth.name = "codeAt") : ri_clo (ri_W p l e r8_codeAt s m args below meth c D ka sa base 3 (MQ below (ri_Qc D ka sa base Po) args s 0 0 (fun q => base ≤ q)) p8_codeAt) (t8_codeAt l Po) := by
  refine ri_clo_of ?_
  unfold t8_codeAt
  exact ⟨s_aload_n X d8_codeAt_0 rfl rfl,
    s_get X (ci := 8) (f := 12) rfl (fun w h => List.mem_cons_of_mem _ (uC_8 w h)) (by decide) (List.mem_cons_of_mem _ mgw_289) d8_codeAt_1 rfl,
    s_iload_n X d8_codeAt_4 rfl rfl,
    s_bipush X d8_codeAt_5 rfl rfl,
    s_imul X d8_codeAt_7 rfl,
    s_iload_n X d8_codeAt_8 rfl rfl,
    s_iadd X d8_codeAt_9 rfl,
    s_iald X rfl d8_codeAt_10 rfl,
    s_iret X hret hlocks d8_codeAt_11, trivial⟩
